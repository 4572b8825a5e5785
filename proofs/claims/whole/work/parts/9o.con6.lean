/-! the reference's constructor -/
section ZCV
def mX9_new : zMth := (yX9_init, cX9_init, 1, none, 9, 13, 4796)
def zRu9 : Nat → Int32 := va_cpy (fun i => (zStL 6).getD i 0) (fun _ => 0) 0 2 8
def zA9 : Nat → Nat → Int32 := fun q => if q = 1 then zRu9 else fun _ => 0
def zMdC : List zCE := [.inl (0, 298, .inl zRu9), .inl (0, 298, .inl (fun _ => 0)), .inl (0, 2384, .inl (fun _ => 0)), .inl (0, 298, .inl (fun _ => 0)), .inl (0, 48, .inl (fun _ => 0)), .inl (0, 25, .inl (fun _ => 0)), .inl (0, 25, .inl (fun _ => 0)), .inl (0, 576, .inl (fun _ => 0)), .inl (0, 6, .inl (fun _ => 0)), .inl (0, 6, .inl (fun _ => 0)), .inl (2, 768, .inl (fun _ => 0)), .inl (2, 60, .inl (fun _ => 0)), .inl (0, 4, .inl (fun _ => 0))]
theorem zMd_eq : zMdC = (List.range 13).map (fun j => mShape (j + 1) (fun _ => 0) (zA9 (j + 1))) := by
  rfl
theorem con_X9 {d : Nat} {w : zWd} {K : Option Value → zWd → Prop} (hb : w.1 = 1) (hx : w.2 0 = .inr (9, [.null, .null, .int 0, .null, .int 0, .null, .int 0, .null, .int 0, .int 0, .null, .int 0, .int 0, .int 0, .int 0, .int 0, .null, .null, .int 0, .null, .null, .int 0, .int 0, .null, .int 0, .null, .int 0, .int 0, .int 0, .null])) (hK : K none (mW (fun _ => 0) zA9)) : MOk (d + 1) mX9_new [.ref 0] w K := by
  obtain ⟨wn, wf⟩ := w
  dsimp only at hb hx
  subst hb
  refine MOk.same ?_
  refine MOk.mono (Q := fun r w2 => r = none ∧ Bld w2 wf 1 0 9 [.ref 1, .ref 2, .int 0, .ref 3, .int 0, .ref 4, .int 0, .ref 5, .int 0, .int 0, .ref 6, .int 0, .int 0, .int 0, .int 0, .int 0, .ref 7, .ref 8, .int 0, .ref 9, .ref 10, .int 0, .int 0, .ref 11, .int 0, .ref 12, .int 0, .int 0, .int 0, .ref 13] zMdC) ?_ (fun r w2 h => ?_)
  rotate_left
  · obtain ⟨rfl, hB⟩ := h
    have e : w2.1 = 14 := hB.1
    refine ⟨_, hK, e.symm, fun i hi => ?_⟩
    rw [e] at hi
    match i, hi with
    | 0, _ => exact hB.2.2.2.1.symm
    | i + 1, hi =>
      have := hB.2.2.2.2.2 i _ (by rw [zMd_eq, List.getElem?_map, List.getElem?_range (by omega)]; rfl)
      rw [Nat.add_comm 1 i] at this
      exact this.symm
  generalize hKK : (fun (r : Option Value) w2 => r = none ∧ Bld w2 wf 1 0 9 [.ref 1, .ref 2, .int 0, .ref 3, .int 0, .ref 4, .int 0, .ref 5, .int 0, .int 0, .ref 6, .int 0, .int 0, .int 0, .int 0, .int 0, .ref 7, .ref 8, .int 0, .ref 9, .ref 10, .int 0, .int 0, .ref 11, .int 0, .ref 12, .int 0, .int 0, .int 0, .ref 13] zMdC) = K
  have hK : ∀ w2, Bld w2 wf 1 0 9 [.ref 1, .ref 2, .int 0, .ref 3, .int 0, .ref 4, .int 0, .ref 5, .int 0, .int 0, .ref 6, .int 0, .int 0, .int 0, .int 0, .int 0, .ref 7, .ref 8, .int 0, .ref 9, .ref 10, .int 0, .int 0, .ref 11, .int 0, .ref 12, .int 0, .int 0, .int 0, .ref 13] zMdC → K none w2 := fun w2 h => by rw [← hKK]; exact ⟨rfl, h⟩
  refine MOk.body pl9 rfl (by simp [Value.category]) (Nat.le_of_ble_eq_true rfl) ?_
  have hB := Bld.start (w := (1, wf)) (p := 0) (Nat.lt_succ_self 0) (fun i hi => by
    have : i = 0 := by have : i < 1 := hi; omega
    subst this
    show zbC 1 (wf 0)
    rw [hx]
    exact fun q hq => by simp at hq) hx
  have hlv : ∀ q : Nat, some (Value.ref q) ∈ ([some (.ref 0)] : List (Option Value)) → q < 1 := fun q hq => by
    have : q = 0 := by simpa using hq
    omega
  refine Go.aload_n (x := 0) dX9_init_0 rfl ?_
  refine Go.objI dX9_init_1 (zr_6 _ (List.mem_of_getElem? (i := 4) rfl)) (by simp) ?_
  show Go mX9_new (d + 1) 1 4 [some (.ref 0)] [] (1, wf) 13 4796 K
  refine Go.mkf (W0 := wf) (n0 := 1) (p := 0) (ci := 9) (idx := 9) (k := 0) (t := 0) (N := 298) hB (by show 1 + 0 < zB; decide) rfl hlv dX9_init_4 (Go.pS dX9_init_5 (by decide)) dX9_init_8 dX9_init_10 (by decide) rfl (zr_3 _ (List.mem_of_getElem? (i := 3) rfl)) rfl (by decide) rfl (by decide) f_9_9 (Nat.le_of_ble_eq_true rfl) rfl (Or.inr ⟨rfl, rfl⟩) (by decide) (by decide) (fun w' hB => ?_)
  replace hB : Bld w' wf 1 0 9 [.ref 1, .null, .int 0, .null, .int 0, .null, .int 0, .null, .int 0, .int 0, .null, .int 0, .int 0, .int 0, .int 0, .int 0, .null, .null, .int 0, .null, .null, .int 0, .int 0, .null, .int 0, .null, .int 0, .int 0, .int 0, .null] [.inl (0, 298, .inl (fun _ => 0))] := hB
  show Go mX9_new (d + 1) 1 13 [some (.ref 0)] [] w' 12 4498 K
  refine Go.mkf (W0 := wf) (n0 := 1) (p := 0) (ci := 9) (idx := 13) (k := 1) (t := 0) (N := 298) hB (by show 1 + 1 < zB; decide) rfl hlv dX9_init_13 (Go.pS dX9_init_14 (by decide)) dX9_init_17 dX9_init_19 (by decide) rfl (zr_3 _ (List.mem_of_getElem? (i := 3) rfl)) rfl (by decide) rfl (by decide) f_9_13 (Nat.le_of_ble_eq_true rfl) rfl (Or.inr ⟨rfl, rfl⟩) (by decide) (by decide) (fun w' hB => ?_)
  replace hB : Bld w' wf 1 0 9 [.ref 1, .ref 2, .int 0, .null, .int 0, .null, .int 0, .null, .int 0, .int 0, .null, .int 0, .int 0, .int 0, .int 0, .int 0, .null, .null, .int 0, .null, .null, .int 0, .int 0, .null, .int 0, .null, .int 0, .int 0, .int 0, .null] [.inl (0, 298, .inl (fun _ => 0)), .inl (0, 298, .inl (fun _ => 0))] := hB
  show Go mX9_new (d + 1) 1 22 [some (.ref 0)] [] w' 11 4200 K
  refine Go.mkf (W0 := wf) (n0 := 1) (p := 0) (ci := 9) (idx := 16) (k := 3) (t := 0) (N := 2384) hB (by show 1 + 2 < zB; decide) rfl hlv dX9_init_22 (Go.pS dX9_init_23 (by decide)) dX9_init_26 dX9_init_28 (by decide) rfl (zr_3 _ (List.mem_of_getElem? (i := 3) rfl)) rfl (by decide) rfl (by decide) f_9_16 (Nat.le_of_ble_eq_true rfl) rfl (Or.inr ⟨rfl, rfl⟩) (by decide) (by decide) (fun w' hB => ?_)
  replace hB : Bld w' wf 1 0 9 [.ref 1, .ref 2, .int 0, .ref 3, .int 0, .null, .int 0, .null, .int 0, .int 0, .null, .int 0, .int 0, .int 0, .int 0, .int 0, .null, .null, .int 0, .null, .null, .int 0, .int 0, .null, .int 0, .null, .int 0, .int 0, .int 0, .null] [.inl (0, 298, .inl (fun _ => 0)), .inl (0, 298, .inl (fun _ => 0)), .inl (0, 2384, .inl (fun _ => 0))] := hB
  show Go mX9_new (d + 1) 1 31 [some (.ref 0)] [] w' 10 1816 K
  refine Go.mkf (W0 := wf) (n0 := 1) (p := 0) (ci := 9) (idx := 19) (k := 5) (t := 0) (N := 298) hB (by show 1 + 3 < zB; decide) rfl hlv dX9_init_31 (Go.pS dX9_init_32 (by decide)) dX9_init_35 dX9_init_37 (by decide) rfl (zr_3 _ (List.mem_of_getElem? (i := 3) rfl)) rfl (by decide) rfl (by decide) f_9_19 (Nat.le_of_ble_eq_true rfl) rfl (Or.inr ⟨rfl, rfl⟩) (by decide) (by decide) (fun w' hB => ?_)
  replace hB : Bld w' wf 1 0 9 [.ref 1, .ref 2, .int 0, .ref 3, .int 0, .ref 4, .int 0, .null, .int 0, .int 0, .null, .int 0, .int 0, .int 0, .int 0, .int 0, .null, .null, .int 0, .null, .null, .int 0, .int 0, .null, .int 0, .null, .int 0, .int 0, .int 0, .null] [.inl (0, 298, .inl (fun _ => 0)), .inl (0, 298, .inl (fun _ => 0)), .inl (0, 2384, .inl (fun _ => 0)), .inl (0, 298, .inl (fun _ => 0))] := hB
  show Go mX9_new (d + 1) 1 40 [some (.ref 0)] [] w' 9 1518 K
  refine Go.mkf (W0 := wf) (n0 := 1) (p := 0) (ci := 9) (idx := 22) (k := 7) (t := 0) (N := 48) hB (by show 1 + 4 < zB; decide) rfl hlv dX9_init_40 (Go.pB dX9_init_41 (by decide)) dX9_init_43 dX9_init_45 (by decide) rfl (zr_3 _ (List.mem_of_getElem? (i := 3) rfl)) rfl (by decide) rfl (by decide) f_9_22 (Nat.le_of_ble_eq_true rfl) rfl (Or.inr ⟨rfl, rfl⟩) (by decide) (by decide) (fun w' hB => ?_)
  replace hB : Bld w' wf 1 0 9 [.ref 1, .ref 2, .int 0, .ref 3, .int 0, .ref 4, .int 0, .ref 5, .int 0, .int 0, .null, .int 0, .int 0, .int 0, .int 0, .int 0, .null, .null, .int 0, .null, .null, .int 0, .int 0, .null, .int 0, .null, .int 0, .int 0, .int 0, .null] [.inl (0, 298, .inl (fun _ => 0)), .inl (0, 298, .inl (fun _ => 0)), .inl (0, 2384, .inl (fun _ => 0)), .inl (0, 298, .inl (fun _ => 0)), .inl (0, 48, .inl (fun _ => 0))] := hB
  show Go mX9_new (d + 1) 1 48 [some (.ref 0)] [] w' 8 1470 K
  refine Go.mkf (W0 := wf) (n0 := 1) (p := 0) (ci := 9) (idx := 25) (k := 10) (t := 0) (N := 25) hB (by show 1 + 5 < zB; decide) rfl hlv dX9_init_48 (Go.pB dX9_init_49 (by decide)) dX9_init_51 dX9_init_53 (by decide) rfl (zr_3 _ (List.mem_of_getElem? (i := 3) rfl)) rfl (by decide) rfl (by decide) f_9_25 (Nat.le_of_ble_eq_true rfl) rfl (Or.inr ⟨rfl, rfl⟩) (by decide) (by decide) (fun w' hB => ?_)
  replace hB : Bld w' wf 1 0 9 [.ref 1, .ref 2, .int 0, .ref 3, .int 0, .ref 4, .int 0, .ref 5, .int 0, .int 0, .ref 6, .int 0, .int 0, .int 0, .int 0, .int 0, .null, .null, .int 0, .null, .null, .int 0, .int 0, .null, .int 0, .null, .int 0, .int 0, .int 0, .null] [.inl (0, 298, .inl (fun _ => 0)), .inl (0, 298, .inl (fun _ => 0)), .inl (0, 2384, .inl (fun _ => 0)), .inl (0, 298, .inl (fun _ => 0)), .inl (0, 48, .inl (fun _ => 0)), .inl (0, 25, .inl (fun _ => 0))] := hB
  show Go mX9_new (d + 1) 1 56 [some (.ref 0)] [] w' 7 1445 K
  refine Go.mkf (W0 := wf) (n0 := 1) (p := 0) (ci := 9) (idx := 28) (k := 16) (t := 0) (N := 25) hB (by show 1 + 6 < zB; decide) rfl hlv dX9_init_56 (Go.pB dX9_init_57 (by decide)) dX9_init_59 dX9_init_61 (by decide) rfl (zr_3 _ (List.mem_of_getElem? (i := 3) rfl)) rfl (by decide) rfl (by decide) f_9_28 (Nat.le_of_ble_eq_true rfl) rfl (Or.inr ⟨rfl, rfl⟩) (by decide) (by decide) (fun w' hB => ?_)
  replace hB : Bld w' wf 1 0 9 [.ref 1, .ref 2, .int 0, .ref 3, .int 0, .ref 4, .int 0, .ref 5, .int 0, .int 0, .ref 6, .int 0, .int 0, .int 0, .int 0, .int 0, .ref 7, .null, .int 0, .null, .null, .int 0, .int 0, .null, .int 0, .null, .int 0, .int 0, .int 0, .null] [.inl (0, 298, .inl (fun _ => 0)), .inl (0, 298, .inl (fun _ => 0)), .inl (0, 2384, .inl (fun _ => 0)), .inl (0, 298, .inl (fun _ => 0)), .inl (0, 48, .inl (fun _ => 0)), .inl (0, 25, .inl (fun _ => 0)), .inl (0, 25, .inl (fun _ => 0))] := hB
  show Go mX9_new (d + 1) 1 64 [some (.ref 0)] [] w' 6 1420 K
  refine Go.mkf (W0 := wf) (n0 := 1) (p := 0) (ci := 9) (idx := 31) (k := 17) (t := 0) (N := 576) hB (by show 1 + 7 < zB; decide) rfl hlv dX9_init_64 (Go.pS dX9_init_65 (by decide)) dX9_init_68 dX9_init_70 (by decide) rfl (zr_3 _ (List.mem_of_getElem? (i := 3) rfl)) rfl (by decide) rfl (by decide) f_9_31 (Nat.le_of_ble_eq_true rfl) rfl (Or.inr ⟨rfl, rfl⟩) (by decide) (by decide) (fun w' hB => ?_)
  replace hB : Bld w' wf 1 0 9 [.ref 1, .ref 2, .int 0, .ref 3, .int 0, .ref 4, .int 0, .ref 5, .int 0, .int 0, .ref 6, .int 0, .int 0, .int 0, .int 0, .int 0, .ref 7, .ref 8, .int 0, .null, .null, .int 0, .int 0, .null, .int 0, .null, .int 0, .int 0, .int 0, .null] [.inl (0, 298, .inl (fun _ => 0)), .inl (0, 298, .inl (fun _ => 0)), .inl (0, 2384, .inl (fun _ => 0)), .inl (0, 298, .inl (fun _ => 0)), .inl (0, 48, .inl (fun _ => 0)), .inl (0, 25, .inl (fun _ => 0)), .inl (0, 25, .inl (fun _ => 0)), .inl (0, 576, .inl (fun _ => 0))] := hB
  show Go mX9_new (d + 1) 1 73 [some (.ref 0)] [] w' 5 844 K
  refine Go.mkf (W0 := wf) (n0 := 1) (p := 0) (ci := 9) (idx := 34) (k := 19) (t := 0) (N := 6) hB (by show 1 + 8 < zB; decide) rfl hlv dX9_init_73 (Go.pB dX9_init_74 (by decide)) dX9_init_76 dX9_init_78 (by decide) rfl (zr_3 _ (List.mem_of_getElem? (i := 3) rfl)) rfl (by decide) rfl (by decide) f_9_34 (Nat.le_of_ble_eq_true rfl) rfl (Or.inr ⟨rfl, rfl⟩) (by decide) (by decide) (fun w' hB => ?_)
  replace hB : Bld w' wf 1 0 9 [.ref 1, .ref 2, .int 0, .ref 3, .int 0, .ref 4, .int 0, .ref 5, .int 0, .int 0, .ref 6, .int 0, .int 0, .int 0, .int 0, .int 0, .ref 7, .ref 8, .int 0, .ref 9, .null, .int 0, .int 0, .null, .int 0, .null, .int 0, .int 0, .int 0, .null] [.inl (0, 298, .inl (fun _ => 0)), .inl (0, 298, .inl (fun _ => 0)), .inl (0, 2384, .inl (fun _ => 0)), .inl (0, 298, .inl (fun _ => 0)), .inl (0, 48, .inl (fun _ => 0)), .inl (0, 25, .inl (fun _ => 0)), .inl (0, 25, .inl (fun _ => 0)), .inl (0, 576, .inl (fun _ => 0)), .inl (0, 6, .inl (fun _ => 0))] := hB
  show Go mX9_new (d + 1) 1 81 [some (.ref 0)] [] w' 4 838 K
  refine Go.mkf (W0 := wf) (n0 := 1) (p := 0) (ci := 9) (idx := 37) (k := 20) (t := 0) (N := 6) hB (by show 1 + 9 < zB; decide) rfl hlv dX9_init_81 (Go.pB dX9_init_82 (by decide)) dX9_init_84 dX9_init_86 (by decide) rfl (zr_3 _ (List.mem_of_getElem? (i := 3) rfl)) rfl (by decide) rfl (by decide) f_9_37 (Nat.le_of_ble_eq_true rfl) rfl (Or.inr ⟨rfl, rfl⟩) (by decide) (by decide) (fun w' hB => ?_)
  replace hB : Bld w' wf 1 0 9 [.ref 1, .ref 2, .int 0, .ref 3, .int 0, .ref 4, .int 0, .ref 5, .int 0, .int 0, .ref 6, .int 0, .int 0, .int 0, .int 0, .int 0, .ref 7, .ref 8, .int 0, .ref 9, .ref 10, .int 0, .int 0, .null, .int 0, .null, .int 0, .int 0, .int 0, .null] [.inl (0, 298, .inl (fun _ => 0)), .inl (0, 298, .inl (fun _ => 0)), .inl (0, 2384, .inl (fun _ => 0)), .inl (0, 298, .inl (fun _ => 0)), .inl (0, 48, .inl (fun _ => 0)), .inl (0, 25, .inl (fun _ => 0)), .inl (0, 25, .inl (fun _ => 0)), .inl (0, 576, .inl (fun _ => 0)), .inl (0, 6, .inl (fun _ => 0)), .inl (0, 6, .inl (fun _ => 0))] := hB
  show Go mX9_new (d + 1) 1 89 [some (.ref 0)] [] w' 3 832 K
  refine Go.mkf (W0 := wf) (n0 := 1) (p := 0) (ci := 9) (idx := 40) (k := 23) (t := 2) (N := 768) hB (by show 1 + 10 < zB; decide) rfl hlv dX9_init_89 (Go.pS dX9_init_90 (by decide)) dX9_init_93 dX9_init_95 (by decide) rfl (zr_5 _ (List.mem_of_getElem? (i := 17) rfl)) rfl (by decide) rfl (by decide) f_9_40 (Nat.le_of_ble_eq_true rfl) rfl (Or.inr ⟨rfl, rfl⟩) (by decide) (by decide) (fun w' hB => ?_)
  replace hB : Bld w' wf 1 0 9 [.ref 1, .ref 2, .int 0, .ref 3, .int 0, .ref 4, .int 0, .ref 5, .int 0, .int 0, .ref 6, .int 0, .int 0, .int 0, .int 0, .int 0, .ref 7, .ref 8, .int 0, .ref 9, .ref 10, .int 0, .int 0, .ref 11, .int 0, .null, .int 0, .int 0, .int 0, .null] [.inl (0, 298, .inl (fun _ => 0)), .inl (0, 298, .inl (fun _ => 0)), .inl (0, 2384, .inl (fun _ => 0)), .inl (0, 298, .inl (fun _ => 0)), .inl (0, 48, .inl (fun _ => 0)), .inl (0, 25, .inl (fun _ => 0)), .inl (0, 25, .inl (fun _ => 0)), .inl (0, 576, .inl (fun _ => 0)), .inl (0, 6, .inl (fun _ => 0)), .inl (0, 6, .inl (fun _ => 0)), .inl (2, 768, .inl (fun _ => 0))] := hB
  show Go mX9_new (d + 1) 1 98 [some (.ref 0)] [] w' 2 64 K
  refine Go.mkf (W0 := wf) (n0 := 1) (p := 0) (ci := 9) (idx := 44) (k := 25) (t := 2) (N := 60) hB (by show 1 + 11 < zB; decide) rfl hlv dX9_init_98 (Go.pB dX9_init_99 (by decide)) dX9_init_101 dX9_init_103 (by decide) rfl (zr_5 _ (List.mem_of_getElem? (i := 17) rfl)) rfl (by decide) rfl (by decide) f_9_44 (Nat.le_of_ble_eq_true rfl) rfl (Or.inr ⟨rfl, rfl⟩) (by decide) (by decide) (fun w' hB => ?_)
  replace hB : Bld w' wf 1 0 9 [.ref 1, .ref 2, .int 0, .ref 3, .int 0, .ref 4, .int 0, .ref 5, .int 0, .int 0, .ref 6, .int 0, .int 0, .int 0, .int 0, .int 0, .ref 7, .ref 8, .int 0, .ref 9, .ref 10, .int 0, .int 0, .ref 11, .int 0, .ref 12, .int 0, .int 0, .int 0, .null] [.inl (0, 298, .inl (fun _ => 0)), .inl (0, 298, .inl (fun _ => 0)), .inl (0, 2384, .inl (fun _ => 0)), .inl (0, 298, .inl (fun _ => 0)), .inl (0, 48, .inl (fun _ => 0)), .inl (0, 25, .inl (fun _ => 0)), .inl (0, 25, .inl (fun _ => 0)), .inl (0, 576, .inl (fun _ => 0)), .inl (0, 6, .inl (fun _ => 0)), .inl (0, 6, .inl (fun _ => 0)), .inl (2, 768, .inl (fun _ => 0)), .inl (2, 60, .inl (fun _ => 0))] := hB
  show Go mX9_new (d + 1) 1 106 [some (.ref 0)] [] w' 1 4 K
  refine Go.mkf (W0 := wf) (n0 := 1) (p := 0) (ci := 9) (idx := 47) (k := 29) (t := 0) (N := 4) hB (by show 1 + 12 < zB; decide) rfl hlv dX9_init_106 (Go.pI dX9_init_107) dX9_init_108 dX9_init_110 (by decide) rfl (zr_3 _ (List.mem_of_getElem? (i := 3) rfl)) rfl (by decide) rfl (by decide) f_9_47 (Nat.le_of_ble_eq_true rfl) rfl (Or.inr ⟨rfl, rfl⟩) (by decide) (by decide) (fun w' hB => ?_)
  replace hB : Bld w' wf 1 0 9 [.ref 1, .ref 2, .int 0, .ref 3, .int 0, .ref 4, .int 0, .ref 5, .int 0, .int 0, .ref 6, .int 0, .int 0, .int 0, .int 0, .int 0, .ref 7, .ref 8, .int 0, .ref 9, .ref 10, .int 0, .int 0, .ref 11, .int 0, .ref 12, .int 0, .int 0, .int 0, .ref 13] [.inl (0, 298, .inl (fun _ => 0)), .inl (0, 298, .inl (fun _ => 0)), .inl (0, 2384, .inl (fun _ => 0)), .inl (0, 298, .inl (fun _ => 0)), .inl (0, 48, .inl (fun _ => 0)), .inl (0, 25, .inl (fun _ => 0)), .inl (0, 25, .inl (fun _ => 0)), .inl (0, 576, .inl (fun _ => 0)), .inl (0, 6, .inl (fun _ => 0)), .inl (0, 6, .inl (fun _ => 0)), .inl (2, 768, .inl (fun _ => 0)), .inl (2, 60, .inl (fun _ => 0)), .inl (0, 4, .inl (fun _ => 0))] := hB
  show Go mX9_new (d + 1) 1 113 [some (.ref 0)] [] w' 0 0 K
  refine Go.gets (j := 6) dX9_init_113 gs_9_50 (Go.pI dX9_init_116 (Go.aload_n dX9_init_117 rfl ?_))
  refine Go.getf (ci := 9) (k := 0) (v := .ref 1) dX9_init_118 f_9_9 hB.lt hB.2.2.2.1 rfl (Go.pI dX9_init_121 (Go.pB dX9_init_122 (by decide) ?_))
  refine Go.copyS (q := 1 + 0) (n1 := 298) (g := fun _ => 0) dX9_init_124 (zcpS_9 ▸ trivial) (by decide) (by rw [hB.1]; decide) (hB.2.2.2.2.2 0 _ rfl) (by decide) (by decide) (by decide) (by decide) (by decide) (by simp) ?_
  replace hB := hB.upd (j := 0) (x := .inl (0, 298, .inl zRu9)) (Nat.le_of_ble_eq_true rfl) trivial
  exact Go.vret dX9_init_127 rfl (hK _ hB) ⟨rfl, rfl⟩
end ZCV
