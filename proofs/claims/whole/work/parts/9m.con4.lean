/-! constructors with arguments; the ring of plans -/
section ZCT
def zWkF (a b : Nat) : List Value := [.ref a, .int 0, .int 0, .ref (b + 1), .ref (b + 2), .ref (b + 3), .ref (b + 4), .int 0, .ref (b + 5), .ref (b + 6), .ref (b + 7), .int 0, .ref (b + 8), .ref (b + 9)]
def zWkC (b : Nat) : List zCE := [.inl (0, 24, .inl (fun _ => 0)), .inl (1, 24, .inl (fun _ => 0)), .inl (0, 24, .inl (fun _ => 0)), .inl (0, 24, .inl (fun _ => 0)), .inl (0, 24, .inl (fun _ => 0)), .inl (0, 24, .inl (fun _ => 0)), .inl (0, 24, .inl (fun _ => 0)), .inl (0, 168, .inl (fun _ => 0)), .inl (0, 168, .inl (fun _ => 0))]
theorem con_X6 {d : Nat} {w : zWd} {b a : Nat} {K : Option Value → zWd → Prop} (hb : w.1 = b + 1) (ha : a < b) (hw : ∀ i, i < w.1 → zbC w.1 (w.2 i)) (hx : w.2 b = .inr (6, [.null, .int 0, .int 0, .null, .null, .null, .null, .int 0, .null, .null, .null, .int 0, .null, .null])) (hK : ∀ w', Bld w' w.2 w.1 b 6 (zWkF a b) (zWkC b) → K none w') : MOk (d + 1) mX6_init [.ref b, .ref a] w K := by
  obtain ⟨wn, wf⟩ := w
  dsimp only at hb hw hx hK
  subst hb
  refine MOk.body pl6 rfl (by simp [Value.category]) (Nat.le_of_ble_eq_true rfl) ?_
  refine Go.hz (fun hz => ?_)
  have hz : b + 1 + 9 ≤ zB := hz
  have hB := Bld.start (w := (b + 1, wf)) (Nat.lt_succ_self b) hw hx
  have hlv : ∀ q : Nat, some (Value.ref q) ∈ ([some (.ref b), some (.ref a)] : List (Option Value)) → q < b + 1 := fun q hq => by
    have : q = b ∨ q = a := by simpa using hq
    omega
  refine Go.aload_n (x := b) dX6_init_0 rfl ?_
  refine Go.objI dX6_init_1 (zr_4 _ (List.mem_of_getElem? (i := 6) rfl)) (by simp) ?_
  show Go mX6_init (d + 1) (b + 1) 4 [some (.ref b), some (.ref a)] [] (b + 1, wf) 9 504 K
  refine Go.mkf (W0 := wf) (n0 := b + 1) (p := b) (ci := 6) (idx := 9) (k := 3) (t := 0) (N := 24) hB (by show b + 1 + 0 < zB; omega) rfl hlv dX6_init_4 (Go.pB dX6_init_5 (by decide)) dX6_init_7 dX6_init_9 (by decide) rfl (zr_3 _ (List.mem_of_getElem? (i := 3) rfl)) rfl (by decide) rfl (by decide) f_6_9 (Nat.le_of_ble_eq_true rfl) rfl (Or.inr ⟨rfl, rfl⟩) (by decide) (by decide) (fun w' hB => ?_)
  replace hB : Bld w' wf (b + 1) b 6 [.null, .int 0, .int 0, .ref (b + 1), .null, .null, .null, .int 0, .null, .null, .null, .int 0, .null, .null] [.inl (0, 24, .inl (fun _ => 0))] := hB
  show Go mX6_init (d + 1) (b + 1) 12 [some (.ref b), some (.ref a)] [] w' 8 480 K
  refine Go.mkf (W0 := wf) (n0 := b + 1) (p := b) (ci := 6) (idx := 15) (k := 4) (t := 1) (N := 24) hB (by show b + 1 + 1 < zB; omega) rfl hlv dX6_init_12 (Go.pB dX6_init_13 (by decide)) dX6_init_15 dX6_init_17 (by decide) rfl (zr_4 _ (List.mem_of_getElem? (i := 8) rfl)) rfl (by decide) rfl (by decide) f_6_15 (Nat.le_of_ble_eq_true rfl) rfl (Or.inr ⟨rfl, rfl⟩) (by decide) (by decide) (fun w' hB => ?_)
  replace hB : Bld w' wf (b + 1) b 6 [.null, .int 0, .int 0, .ref (b + 1), .ref (b + 2), .null, .null, .int 0, .null, .null, .null, .int 0, .null, .null] [.inl (0, 24, .inl (fun _ => 0)), .inl (1, 24, .inl (fun _ => 0))] := hB
  show Go mX6_init (d + 1) (b + 1) 20 [some (.ref b), some (.ref a)] [] w' 7 456 K
  refine Go.mkf (W0 := wf) (n0 := b + 1) (p := b) (ci := 6) (idx := 19) (k := 5) (t := 0) (N := 24) hB (by show b + 1 + 2 < zB; omega) rfl hlv dX6_init_20 (Go.pB dX6_init_21 (by decide)) dX6_init_23 dX6_init_25 (by decide) rfl (zr_3 _ (List.mem_of_getElem? (i := 3) rfl)) rfl (by decide) rfl (by decide) f_6_19 (Nat.le_of_ble_eq_true rfl) rfl (Or.inr ⟨rfl, rfl⟩) (by decide) (by decide) (fun w' hB => ?_)
  replace hB : Bld w' wf (b + 1) b 6 [.null, .int 0, .int 0, .ref (b + 1), .ref (b + 2), .ref (b + 3), .null, .int 0, .null, .null, .null, .int 0, .null, .null] [.inl (0, 24, .inl (fun _ => 0)), .inl (1, 24, .inl (fun _ => 0)), .inl (0, 24, .inl (fun _ => 0))] := hB
  show Go mX6_init (d + 1) (b + 1) 28 [some (.ref b), some (.ref a)] [] w' 6 432 K
  refine Go.mkf (W0 := wf) (n0 := b + 1) (p := b) (ci := 6) (idx := 22) (k := 6) (t := 0) (N := 24) hB (by show b + 1 + 3 < zB; omega) rfl hlv dX6_init_28 (Go.pB dX6_init_29 (by decide)) dX6_init_31 dX6_init_33 (by decide) rfl (zr_3 _ (List.mem_of_getElem? (i := 3) rfl)) rfl (by decide) rfl (by decide) f_6_22 (Nat.le_of_ble_eq_true rfl) rfl (Or.inr ⟨rfl, rfl⟩) (by decide) (by decide) (fun w' hB => ?_)
  replace hB : Bld w' wf (b + 1) b 6 [.null, .int 0, .int 0, .ref (b + 1), .ref (b + 2), .ref (b + 3), .ref (b + 4), .int 0, .null, .null, .null, .int 0, .null, .null] [.inl (0, 24, .inl (fun _ => 0)), .inl (1, 24, .inl (fun _ => 0)), .inl (0, 24, .inl (fun _ => 0)), .inl (0, 24, .inl (fun _ => 0))] := hB
  show Go mX6_init (d + 1) (b + 1) 36 [some (.ref b), some (.ref a)] [] w' 5 408 K
  refine Go.mkf (W0 := wf) (n0 := b + 1) (p := b) (ci := 6) (idx := 25) (k := 8) (t := 0) (N := 24) hB (by show b + 1 + 4 < zB; omega) rfl hlv dX6_init_36 (Go.pB dX6_init_37 (by decide)) dX6_init_39 dX6_init_41 (by decide) rfl (zr_3 _ (List.mem_of_getElem? (i := 3) rfl)) rfl (by decide) rfl (by decide) f_6_25 (Nat.le_of_ble_eq_true rfl) rfl (Or.inr ⟨rfl, rfl⟩) (by decide) (by decide) (fun w' hB => ?_)
  replace hB : Bld w' wf (b + 1) b 6 [.null, .int 0, .int 0, .ref (b + 1), .ref (b + 2), .ref (b + 3), .ref (b + 4), .int 0, .ref (b + 5), .null, .null, .int 0, .null, .null] [.inl (0, 24, .inl (fun _ => 0)), .inl (1, 24, .inl (fun _ => 0)), .inl (0, 24, .inl (fun _ => 0)), .inl (0, 24, .inl (fun _ => 0)), .inl (0, 24, .inl (fun _ => 0))] := hB
  show Go mX6_init (d + 1) (b + 1) 44 [some (.ref b), some (.ref a)] [] w' 4 384 K
  refine Go.mkf (W0 := wf) (n0 := b + 1) (p := b) (ci := 6) (idx := 28) (k := 9) (t := 0) (N := 24) hB (by show b + 1 + 5 < zB; omega) rfl hlv dX6_init_44 (Go.pB dX6_init_45 (by decide)) dX6_init_47 dX6_init_49 (by decide) rfl (zr_3 _ (List.mem_of_getElem? (i := 3) rfl)) rfl (by decide) rfl (by decide) f_6_28 (Nat.le_of_ble_eq_true rfl) rfl (Or.inr ⟨rfl, rfl⟩) (by decide) (by decide) (fun w' hB => ?_)
  replace hB : Bld w' wf (b + 1) b 6 [.null, .int 0, .int 0, .ref (b + 1), .ref (b + 2), .ref (b + 3), .ref (b + 4), .int 0, .ref (b + 5), .ref (b + 6), .null, .int 0, .null, .null] [.inl (0, 24, .inl (fun _ => 0)), .inl (1, 24, .inl (fun _ => 0)), .inl (0, 24, .inl (fun _ => 0)), .inl (0, 24, .inl (fun _ => 0)), .inl (0, 24, .inl (fun _ => 0)), .inl (0, 24, .inl (fun _ => 0))] := hB
  show Go mX6_init (d + 1) (b + 1) 52 [some (.ref b), some (.ref a)] [] w' 3 360 K
  refine Go.mkf (W0 := wf) (n0 := b + 1) (p := b) (ci := 6) (idx := 31) (k := 10) (t := 0) (N := 24) hB (by show b + 1 + 6 < zB; omega) rfl hlv dX6_init_52 (Go.pB dX6_init_53 (by decide)) dX6_init_55 dX6_init_57 (by decide) rfl (zr_3 _ (List.mem_of_getElem? (i := 3) rfl)) rfl (by decide) rfl (by decide) f_6_31 (Nat.le_of_ble_eq_true rfl) rfl (Or.inr ⟨rfl, rfl⟩) (by decide) (by decide) (fun w' hB => ?_)
  replace hB : Bld w' wf (b + 1) b 6 [.null, .int 0, .int 0, .ref (b + 1), .ref (b + 2), .ref (b + 3), .ref (b + 4), .int 0, .ref (b + 5), .ref (b + 6), .ref (b + 7), .int 0, .null, .null] [.inl (0, 24, .inl (fun _ => 0)), .inl (1, 24, .inl (fun _ => 0)), .inl (0, 24, .inl (fun _ => 0)), .inl (0, 24, .inl (fun _ => 0)), .inl (0, 24, .inl (fun _ => 0)), .inl (0, 24, .inl (fun _ => 0)), .inl (0, 24, .inl (fun _ => 0))] := hB
  show Go mX6_init (d + 1) (b + 1) 60 [some (.ref b), some (.ref a)] [] w' 2 336 K
  refine Go.mkf (W0 := wf) (n0 := b + 1) (p := b) (ci := 6) (idx := 34) (k := 12) (t := 0) (N := 168) hB (by show b + 1 + 7 < zB; omega) rfl hlv dX6_init_60 (Go.pS dX6_init_61 (by decide)) dX6_init_64 dX6_init_66 (by decide) rfl (zr_3 _ (List.mem_of_getElem? (i := 3) rfl)) rfl (by decide) rfl (by decide) f_6_34 (Nat.le_of_ble_eq_true rfl) rfl (Or.inr ⟨rfl, rfl⟩) (by decide) (by decide) (fun w' hB => ?_)
  replace hB : Bld w' wf (b + 1) b 6 [.null, .int 0, .int 0, .ref (b + 1), .ref (b + 2), .ref (b + 3), .ref (b + 4), .int 0, .ref (b + 5), .ref (b + 6), .ref (b + 7), .int 0, .ref (b + 8), .null] [.inl (0, 24, .inl (fun _ => 0)), .inl (1, 24, .inl (fun _ => 0)), .inl (0, 24, .inl (fun _ => 0)), .inl (0, 24, .inl (fun _ => 0)), .inl (0, 24, .inl (fun _ => 0)), .inl (0, 24, .inl (fun _ => 0)), .inl (0, 24, .inl (fun _ => 0)), .inl (0, 168, .inl (fun _ => 0))] := hB
  show Go mX6_init (d + 1) (b + 1) 69 [some (.ref b), some (.ref a)] [] w' 1 168 K
  refine Go.mkf (W0 := wf) (n0 := b + 1) (p := b) (ci := 6) (idx := 37) (k := 13) (t := 0) (N := 168) hB (by show b + 1 + 8 < zB; omega) rfl hlv dX6_init_69 (Go.pS dX6_init_70 (by decide)) dX6_init_73 dX6_init_75 (by decide) rfl (zr_3 _ (List.mem_of_getElem? (i := 3) rfl)) rfl (by decide) rfl (by decide) f_6_37 (Nat.le_of_ble_eq_true rfl) rfl (Or.inr ⟨rfl, rfl⟩) (by decide) (by decide) (fun w' hB => ?_)
  replace hB : Bld w' wf (b + 1) b 6 [.null, .int 0, .int 0, .ref (b + 1), .ref (b + 2), .ref (b + 3), .ref (b + 4), .int 0, .ref (b + 5), .ref (b + 6), .ref (b + 7), .int 0, .ref (b + 8), .ref (b + 9)] [.inl (0, 24, .inl (fun _ => 0)), .inl (1, 24, .inl (fun _ => 0)), .inl (0, 24, .inl (fun _ => 0)), .inl (0, 24, .inl (fun _ => 0)), .inl (0, 24, .inl (fun _ => 0)), .inl (0, 24, .inl (fun _ => 0)), .inl (0, 24, .inl (fun _ => 0)), .inl (0, 168, .inl (fun _ => 0)), .inl (0, 168, .inl (fun _ => 0))] := hB
  show Go mX6_init (d + 1) (b + 1) 78 [some (.ref b), some (.ref a)] [] w' 0 0 K
  refine Go.aload_n dX6_init_78 rfl (Go.aload_n dX6_init_79 rfl ?_)
  refine Go.putf dX6_init_80 f_6_40 hB.lt hB.2.2.2.1 (Nat.le_of_ble_eq_true rfl) rfl (Or.inr ⟨rfl, rfl⟩) ?_
  replace hB := hB.set (k := 0) (v := .ref a) (fun q e => by cases e; have := hB.lt; omega)
  exact Go.vret dX6_init_83 rfl (hK _ hB) ⟨rfl, rfl⟩
def zSrF (a c b : Nat) : List Value := [.ref a, .ref c, .ref (b + 1), .int 0, .ref (b + 2), .int 0, .int 0]
def zSrC (b : Nat) : List zCE := [.inl (0, 6, .inl (fun _ => 0)), .inl (0, 6, .inl (fun _ => 0))]
theorem con_X7 {d : Nat} {w : zWd} {b a c : Nat} {K : Option Value → zWd → Prop} (hb : w.1 = b + 1) (ha : a < b) (hc : c < b) (hw : ∀ i, i < w.1 → zbC w.1 (w.2 i)) (hx : w.2 b = .inr (7, [.null, .null, .null, .int 0, .null, .int 0, .int 0])) (hK : ∀ w', Bld w' w.2 w.1 b 7 (zSrF a c b) (zSrC b) → K none w') : MOk (d + 1) mX7_init [.ref b, .ref a, .ref c] w K := by
  obtain ⟨wn, wf⟩ := w
  dsimp only at hb hw hx hK
  subst hb
  refine MOk.body pl7 rfl (by simp [Value.category]) (Nat.le_of_ble_eq_true rfl) ?_
  refine Go.hz (fun hz => ?_)
  have hz : b + 1 + 2 ≤ zB := hz
  have hB := Bld.start (w := (b + 1, wf)) (Nat.lt_succ_self b) hw hx
  have hlv : ∀ q : Nat, some (Value.ref q) ∈ ([some (.ref b), some (.ref a), some (.ref c)] : List (Option Value)) → q < b + 1 := fun q hq => by
    have : q = b ∨ q = a ∨ q = c := by simpa using hq
    omega
  refine Go.aload_n (x := b) dX7_init_0 rfl ?_
  refine Go.objI dX7_init_1 (zr_5 _ (List.mem_of_getElem? (i := 9) rfl)) (by simp) ?_
  show Go mX7_init (d + 1) (b + 1) 4 [some (.ref b), some (.ref a), some (.ref c)] [] (b + 1, wf) 2 12 K
  refine Go.mkf (W0 := wf) (n0 := b + 1) (p := b) (ci := 7) (idx := 9) (k := 2) (t := 0) (N := 6) hB (by show b + 1 + 0 < zB; omega) rfl hlv dX7_init_4 (Go.pB dX7_init_5 (by decide)) dX7_init_7 dX7_init_9 (by decide) rfl (zr_3 _ (List.mem_of_getElem? (i := 3) rfl)) rfl (by decide) rfl (by decide) f_7_9 (Nat.le_of_ble_eq_true rfl) rfl (Or.inr ⟨rfl, rfl⟩) (by decide) (by decide) (fun w' hB => ?_)
  replace hB : Bld w' wf (b + 1) b 7 [.null, .null, .ref (b + 1), .int 0, .null, .int 0, .int 0] [.inl (0, 6, .inl (fun _ => 0))] := hB
  show Go mX7_init (d + 1) (b + 1) 12 [some (.ref b), some (.ref a), some (.ref c)] [] w' 1 6 K
  refine Go.mkf (W0 := wf) (n0 := b + 1) (p := b) (ci := 7) (idx := 15) (k := 4) (t := 0) (N := 6) hB (by show b + 1 + 1 < zB; omega) rfl hlv dX7_init_12 (Go.pB dX7_init_13 (by decide)) dX7_init_15 dX7_init_17 (by decide) rfl (zr_3 _ (List.mem_of_getElem? (i := 3) rfl)) rfl (by decide) rfl (by decide) f_7_15 (Nat.le_of_ble_eq_true rfl) rfl (Or.inr ⟨rfl, rfl⟩) (by decide) (by decide) (fun w' hB => ?_)
  replace hB : Bld w' wf (b + 1) b 7 [.null, .null, .ref (b + 1), .int 0, .ref (b + 2), .int 0, .int 0] [.inl (0, 6, .inl (fun _ => 0)), .inl (0, 6, .inl (fun _ => 0))] := hB
  show Go mX7_init (d + 1) (b + 1) 20 [some (.ref b), some (.ref a), some (.ref c)] [] w' 0 0 K
  refine Go.aload_n dX7_init_20 rfl (Go.aload_n dX7_init_21 rfl ?_)
  refine Go.putf dX7_init_22 f_7_18 hB.lt hB.2.2.2.1 (Nat.le_of_ble_eq_true rfl) rfl (Or.inr ⟨rfl, rfl⟩) ?_
  replace hB := hB.set (k := 0) (v := .ref a) (fun q e => by cases e; have := hB.lt; omega)
  refine Go.aload_n dX7_init_25 rfl (Go.aload_n dX7_init_26 rfl ?_)
  refine Go.putf dX7_init_27 f_7_22 hB.lt hB.2.2.2.1 (Nat.le_of_ble_eq_true rfl) rfl (Or.inr ⟨rfl, rfl⟩) ?_
  replace hB := hB.set (k := 1) (v := .ref c) (fun q e => by cases e; have h0 := hB.lt; have h0 : b < w'.1 := h0; show c < w'.1; omega)
  exact Go.vret dX7_init_30 rfl (hK _ hB) ⟨rfl, rfl⟩
/-- the ring's plans so far -/
def zRgP (b : Nat) : Nat → List zCE
  | 0 => []
  | i + 1 => zRgP b i ++ (.inr (3, zPnF (b + 2 + 18 * i)) :: zPnC (b + 2 + 18 * i))
theorem zRgP_len {b : Nat} : ∀ i, (zRgP b i).length = 18 * i
  | 0 => rfl
  | i + 1 => by
    show (zRgP b i ++ _).length = _
    rw [List.length_append, zRgP_len i]
    show 18 * i + 18 = _
    omega
def zRgO (b i : Nat) : zCE := .inl (4, 8, .inr (.inr (.inr (.inr (fun k => if k < i then some (b + 2 + 18 * k) else none)))))
theorem c1_loop {d b : Nat} {wf : Nat → zCE} {K : Option Value → zWd → Prop} (hz : b + 1 + 145 ≤ zB) (hK : ∀ w', Bld w' wf (b + 1) b 1 [.ref (b + 1), .int 0, .int 0] (zRgO b 8 :: zRgP b 8) → K none w') :
    ∀ (n i : Nat) (x : Int) (w' : zWd), x = i → i + n = 8 → Bld w' wf (b + 1) b 1 [.ref (b + 1), .int 0, .int 0] (zRgO b i :: zRgP b i) → Go mX1_init (d + 2) (b + 1) 15 [some (.ref b), some (.int (Int32.ofInt x))] [] w' (18 * n) (333 * n) K := by
  intro n
  induction n with
  | zero =>
    intro i x w' hx hn hB
    have hi : i = 8 := hn
    subst hi
    subst hx
    refine Go.iload_n dX1_init_15 rfl (Go.pB dX1_init_16 (by decide) ?_)
    refine Go.icmp_ge (t := 40) dX1_init_18 (by decide) ?_
    rw [if_pos (by decide)]
    exact Go.vret dX1_init_40 rfl (hK _ hB) ⟨rfl, rfl⟩
  | succ n ih =>
    intro i x w' hx hn hB
    have e1 : w'.1 = b + 2 + 18 * i := by rw [hB.1, List.length_cons, zRgP_len]; omega
    have hlv : ∀ q : Nat, some (Value.ref q) ∈ [some (Value.ref b), some (Value.int (Int32.ofInt x))] → q < b + 1 := fun q hq => by
      have : q = b := by simpa using hq
      omega
    refine Go.iload_n dX1_init_15 rfl (Go.pB dX1_init_16 (by decide) ?_)
    refine Go.icmp_ge (t := 40) dX1_init_18 (by decide) ?_
    rw [if_neg (by rw [zi_le (by omega) (by omega)]; omega)]
    refine Go.aload_n dX1_init_21 rfl ?_
    refine Go.getf (ci := 1) (k := 0) (v := .ref (b + 1)) dX1_init_22 f_1_11 hB.lt hB.2.2.2.1 rfl (Go.iload_n dX1_init_25 rfl ?_)
    refine Go.new (ci := 3) (fs := [.int 0, .null, .null, .null, .null, .null, .null, .int 0, .null, .null, .null, .null, .null]) dX1_init_26 (by decide) rfl rfl (zr_4 _ (List.mem_of_getElem? (i := 0) rfl)) (zr_1 _ (List.mem_of_getElem? (i := 13) rfl)) (zr_1 _ (List.mem_of_getElem? (i := 14) rfl)) (fun j hj => by have h : j < 13 := hj; exact (by decide : ∀ j, j < 13 → defaultValue (zFt 3 j) = vp_V [.int 0, .null, .null, .null, .null, .null, .null, .int 0, .null, .null, .null, .null, .null] j) j h) (fun _ => rfl) (zbC.fr (x := .inr (3, [.int 0, .null, .null, .null, .null, .null, .null, .int 0, .null, .null, .null, .null, .null])) (n := w'.1) (fun q hq => by simp at hq) _ (Nat.le_refl _)) (by omega) (by show 13 ≤ _; omega) ((hB.frW hlv (fun q hq => ?_)).zfr (by omega)) ?_
    · have : q = b + 1 := by simpa using hq
      exact Or.inl (by omega)
    have hB2 := hB.push (x := .inr (3, [.int 0, .null, .null, .null, .null, .null, .null, .int 0, .null, .null, .null, .null, .null])) (fun q hq => by simp at hq)
    refine Go.dup dX1_init_29 rfl ?_
    refine Go.callI (As := []) (rest := [.ref w'.1, .int (Int32.ofInt x), .ref (b + 1)]) dX1_init_30 l_1_17 rfl rfl (by simp [Value.category]) (by show 17 ≤ _; omega) (by show 320 ≤ 333 * (n + 1) - 13; omega) (hB.lvs hlv (by show b + 1 ≤ w'.1 + 1; omega)) (Or.inr (fun v hv k e => Or.inl ?_)) ?_
    · subst e
      have h2 : ∀ k : Nat, Value.ref k ∈ [Value.ref w'.1, .int (Int32.ofInt x), .ref (b + 1)] → k < w'.1 + 1 := fun k hk => by
        have : k = w'.1 ∨ k = b + 1 := by simpa using hk
        omega
      exact h2 k hv
    refine con_X3 _ w'.1 _ rfl hB2.2.2.1 (by show (if w'.1 = w'.1 then _ else _) = _; rw [if_pos rfl]) (fun w2 hB' => ?_)
    have hB3 := hB.join (x := .inr (3, [.int 0, .null, .null, .null, .null, .null, .null, .int 0, .null, .null, .null, .null, .null])) hB'
    have el : (zRgO b i :: zRgP b i).length = 1 + 18 * i := by rw [List.length_cons, zRgP_len]; omega
    have er : w2.2 w'.1 = .inr (3, zPnF w'.1) := by
      have := hB3.2.2.2.2.2 (1 + 18 * i) (.inr (3, zPnF w'.1)) (by rw [List.getElem?_append_right (by omega), el, Nat.sub_self]; rfl)
      rw [show b + 1 + (1 + 18 * i) = w'.1 by omega] at this
      exact this
    have e2 : w2.1 = b + 1 + (1 + 18 * i + 18) := by rw [hB3.1, List.length_append, el]; rfl
    refine Go.aastP (q := b + 1) (r := w'.1) dX1_init_33 (by omega) (hB3.2.2.2.2.2 0 _ rfl) (by rw [zi_in (by omega) (by omega)]; omega) (by omega) er ?_
    have ef : va_up (fun k => if k < i then some (b + 2 + 18 * k) else none) (Int32.ofInt x).toNatClampNeg (some w'.1) = fun k => if k < i + 1 then some (b + 2 + 18 * k) else none := by
      rw [zi_clamp (by omega), show x.toNat = i by omega]
      funext k
      by_cases ek : k = i
      · subst ek; rw [zvup_s, if_pos (by omega), e1]
      · rw [zvup_n ek]
        by_cases ek2 : k < i
        · rw [if_pos ek2, if_pos (by omega)]
        · rw [if_neg ek2, if_neg (by omega)]
    rw [ef]
    have hB4 := hB3.upd (j := 0) (x := zRgO b (i + 1)) (Nat.le_of_ble_eq_true rfl) (fun k q hq => by
      dsimp only at hq
      split at hq
      · cases hq; omega
      · cases hq)
    refine Go.iinc dX1_init_34 rfl (Go.goto (t := 15) dX1_init_37 (by decide) ?_)
    have ex : Int32.ofInt x + Int32.ofInt 1 = Int32.ofInt (x + 1) := zi_add _ _
    have G := ih (i + 1) (x + 1) (zup w2 (b + 1) (zRgO b (i + 1))) (by omega) (by omega) (by
      have e9 : (zRgO b i :: zRgP b i ++ (.inr (3, zPnF w'.1) :: zPnC w'.1)).set 0 (zRgO b (i + 1)) = zRgO b (i + 1) :: zRgP b (i + 1) := by rw [e1]; rfl
      rw [← e9]
      exact hB4)
    show Go mX1_init (d + 2) (b + 1) 15 [some (.ref b), some (.int (Int32.ofInt x + Int32.ofInt 1))] [] (zup w2 (b + 1) (zRgO b (i + 1))) (18 * (n + 1) - 1 - 17) (333 * (n + 1) - 13 - 320) K
    rw [ex, show 18 * (n + 1) - 1 - 17 = 18 * n by omega, show 333 * (n + 1) - 13 - 320 = 333 * n by omega]
    exact G
def zHyF (b : Nat) : List Value := [.ref (b + 1), .int 0, .int 0]
def zHyC (b : Nat) : List zCE := zRgO b 8 :: zRgP b 8
theorem con_X1 {d : Nat} : Con (d + 2) mX1_init 1 [.null, .int 0, .int 0] zHyF zHyC := by
  intro w b K hb hw hx hK
  obtain ⟨wn, wf⟩ := w
  dsimp only at hb hw hx hK
  subst hb
  refine MOk.body pl1 rfl (by simp [Value.category]) (Nat.le_of_ble_eq_true rfl) ?_
  refine Go.hz (fun hz => ?_)
  have hz : b + 1 + 145 ≤ zB := hz
  have hB := Bld.start (w := (b + 1, wf)) (Nat.lt_succ_self b) hw hx
  refine Go.aload_n (x := b) dX1_init_0 rfl ?_
  refine Go.objI dX1_init_1 (zr_3 _ (List.mem_of_getElem? (i := 23) rfl)) (by simp) ?_
  show Go mX1_init (d + 2) (b + 1) 4 [some (.ref b), none] [] (b + 1, wf) 145 2672 K
  have hlv : ∀ q : Nat, some (Value.ref q) ∈ ([some (.ref b), none] : List (Option Value)) → q < b + 1 := fun q hq => by
    have : q = b := by simpa using hq
    omega
  refine Go.aload_n (x := b) dX1_init_4 rfl (Go.pB dX1_init_5 (by decide) ?_)
  refine Go.anew (t := 4) (N := 8) dX1_init_7 (by decide) rfl (zr_4 _ (List.mem_of_getElem? (i := 0) rfl)) (Or.inl rfl) (by decide) rfl (by decide) (by decide) (by decide) ((hB.frW hlv (fun q hq => ?_)).zfr (by show b + 1 < zB; omega)) ?_
  · have : q = b := by simpa using hq
    exact Or.inl (by show q < b + 1; omega)
  replace hB := hB.push (x := .inl (4, 8, .inr (.inr (.inr (.inr (fun _ => none)))))) (fun k q hq => by cases hq)
  refine Go.putf dX1_init_10 f_1_11 hB.lt hB.2.2.2.1 (Nat.le_of_ble_eq_true rfl) rfl (Or.inr ⟨rfl, rfl⟩) ?_
  replace hB := hB.set (k := 0) (v := .ref (b + 1)) (fun q e => by cases e; show b + 1 < b + 1 + 1; omega)
  refine Go.pI dX1_init_13 (Go.istore_n dX1_init_14 (Nat.le_of_ble_eq_true rfl) ?_)
  refine c1_loop hz hK 8 0 0 _ rfl rfl ?_
  have e0 : zRgO b 0 = .inl (4, 8, .inr (.inr (.inr (.inr (fun _ => none))))) := by
    unfold zRgO
    refine congrArg (fun g => (.inl (4, 8, .inr (.inr (.inr (.inr g)))) : zCE)) (funext fun k => if_neg (by omega))
  rw [e0]
  exact hB
end ZCT
