/-! the class's own constructor -/
section ZCU
variable {M : zMth} {d w0n pc : Nat} {lv : List (Option Value)} {st : List Value} {w : zWd} {rc rs : Nat} {Q : Option Value → zWd → Prop} {W0 : Nat → zCE} {n0 p ci : Nat} {fs : List Value} {cs : List zCE} {avs : List Value}
theorem MOk.same (h : MOk d M avs w (fun r w2 => ∃ w', Q r w' ∧ w'.1 = w2.1 ∧ ∀ i, i < w2.1 → w'.2 i = w2.2 i)) : MOk d M avs w Q := by
  intro hz l dC dI dA loc sz
  have h1 := h hz l dC dI dA loc sz
  exact fun p e2 ha hc hk s m args below hf happ hp hK => by
    obtain ⟨t, o, b1, b2, b3, ⟨⟨r, w2, loc', f1, ⟨w4, g1, g2, g3⟩, f3, f4, f5, f6, f7⟩, b5⟩, b6⟩ := h1 p e2 ha hc hk s m args below hf happ hp hK
    have e : zw dA loc' w2 = zw dA loc' w4 := by
      unfold zw
      rw [g2]
      exact List.map_congr_left (fun i hi => by rw [g3 i (List.mem_range.mp hi)])
    exact ⟨t, o, b1, b2, b3, ⟨⟨r, w4, loc', f1, g1, by omega, by omega, f5, by rw [← e]; exact f6, by rw [← e]; exact f7⟩, b5⟩, b6⟩
theorem zfrL_lt {q k : Nat} {vs : List Value} (h : ∀ x : Nat, Value.ref x ∈ vs → x < q) : zfrL q k vs := Or.inr (fun v hv i e => Or.inl (by subst e; exact h i hv))
/-- a new object by its own constructor, which may take arguments, put into a field -/
theorem Go.mkO2 {idn idx k cj N pe : Nat} {C : String} {q : zMth} {as fs0 fsX : List Value} {csX : List zCE} (hB : Bld w W0 n0 p ci fs cs) (hz : n0 + cs.length < zB) (hl : lv[0]? = some (some (.ref p))) (hlv : ∀ q : Nat, some (Value.ref q) ∈ lv → q < n0)
    (d0 : decode M.2.1 pc = .ok (.aload_n 0, 1)) (d1 : decode M.2.1 (pc + 1) = .ok (.new idn, 3)) (d2 : decode M.2.1 (pc + 4) = .ok (.dup, 1)) (d4 : decode M.2.1 pe = .ok (.putfield idx, 3))
    (hcj : cj < 10) (hC : zRn cj = C) (hN : zFn cj = N) (hcl : Cond.classLink (zRn M.2.2.2.2.1) idn C ∈ wsL_law) (hins : Cond.instantiable C N ∈ wsL_law) (hini : Cond.initialized C ∈ wsL_law) (hfs : ∀ j, j < N → defaultValue (zFt cj j) = vp_V fs0 j) (hzv : ∀ loc, fs0.map (zv loc) = fs0) (hnr : ∀ v : Nat, Value.ref v ∉ fs0)
    (hcall : ∀ (w2 : zWd) (rc2 rs2 : Nat), w2.1 = w.1 + 1 → Bld w2 W0 n0 p ci fs (cs ++ [.inr (cj, fs0)]) → (∀ x : Nat, Value.ref x ∈ [Value.ref w.1, .ref p] → x < w2.1) → zfrL w2.1 (zwm q) (zlvs lv) → zwm q ≤ rc2 → zws q ≤ rs2 → MOk d q (.ref w.1 :: as) w2 (fun r w' => Go M (d + 1) w0n pe lv (r.toList ++ [.ref w.1, .ref p]) w' (rc2 - zwm q) (rs2 - zws q) Q) → Go M (d + 1) w0n (pc + 5) lv [.ref w.1, .ref w.1, .ref p] w2 rc2 rs2 Q)
    (hcon : ∀ (w2 : zWd) (K : Option Value → zWd → Prop), w2.1 = w.1 + 1 → w.1 = n0 + cs.length → (∀ i, i < w2.1 → zbC w2.1 (w2.2 i)) → w2.2 w.1 = .inr (cj, fs0) → (∀ w', Bld w' w2.2 w2.1 w.1 cj fsX csX → K none w') → MOk d q (.ref w.1 :: as) w2 K)
    (hf : zF M.2.2.2.2.1 idx = some (ci, k)) (hk : k < fs.length) (hr : (zFt ci k).isReference = true) (hfin : (zFd ci k).2.2.2 = false ∨ (M.1.name = "<init>" ∧ (zFd ci k).1 = zRn M.2.2.2.2.1)) (hrc : 1 + zwm q ≤ rc) (hrs : N + zws q ≤ rs)
    (g : ∀ w', Bld w' W0 n0 p ci (fs.set k (.ref (n0 + cs.length))) (cs ++ (.inr (cj, fsX) :: csX)) → Go M (d + 1) w0n (pe + 3) lv [] w' (rc - 1 - zwm q) (rs - N - zws q) Q) : Go M (d + 1) w0n pc lv [] w rc rs Q := by
  have e : w.1 = n0 + cs.length := hB.1
  have hps : ∀ x : Nat, Value.ref x ∈ [Value.ref p] → x < w.1 ∨ zB ≤ x := fun x hx => by
    have : x = p := by simpa using hx
    exact Or.inl (by rw [this]; exact hB.lt)
  refine Go.aload_n d0 hl ?_
  have hfr0 : ∀ m, zbC m (.inr (cj, fs0)) := fun m v hv => absurd hv (hnr v)
  refine Go.new d1 hcj hC hN hcl hins hini hfs hzv ((hfr0 w.1).fr _ (Nat.le_refl _)) (by omega) (by omega) ((hB.frW hlv hps).zfr (by omega)) ?_
  have hB2 := hB.push (x := .inr (cj, fs0)) (hfr0 _)
  refine Go.dup d2 rfl ?_
  refine hcall _ _ _ rfl hB2 (fun x hx => ?_) (hB.lvs hlv (by show n0 ≤ w.1 + 1; omega)) (by omega) (by omega) ?_
  · have h0 : x = w.1 ∨ x = p := by simpa using hx
    have := hB.lt
    show x < w.1 + 1
    omega
  refine hcon _ _ rfl e hB2.2.2.1 (by show (if w.1 = w.1 then _ else _) = _; rw [if_pos rfl]) (fun w' hB' => ?_)
  have hB3 := hB.join (x := .inr (cj, fs0)) hB'
  refine Go.putf d4 hf hB3.lt hB3.2.2.2.1 hk (show zfit (zFt ci k) (.ref w.1) from hr) hfin ?_
  refine g _ ?_
  rw [← e]
  refine hB3.set (fun x z => ?_)
  cases z
  have := hB3.1
  simp at this
  omega

def zL1 : List zCE := [] ++ (.inr (3, zPnF 1) :: zPnC 1)
theorem zL1_len : zL1.length = 18 := by decide +kernel
def zL2 : List zCE := zL1 ++ (.inr (3, zPnF 19) :: zPnC 19)
theorem zL2_len : zL2.length = 36 := by decide +kernel
def zL3 : List zCE := zL2 ++ (.inr (3, zPnF 37) :: zPnC 37)
theorem zL3_len : zL3.length = 54 := by decide +kernel
def zL4 : List zCE := zL3 ++ (.inr (1, zHyF 55) :: zHyC 55)
theorem zL4_len : zL4.length = 200 := by decide +kernel
def zL5 : List zCE := zL4 ++ (.inr (6, zWkF 1 201) :: zWkC 201)
theorem zL5_len : zL5.length = 210 := by decide +kernel
def zL6 : List zCE := zL5 ++ (.inr (2, zOfF 211) :: zOfC 211)
theorem zL6_len : zL6.length = 211 := by decide +kernel
def zL7 : List zCE := zL6 ++ (.inr (4, zRpF 212) :: zRpC 212)
theorem zL7_len : zL7.length = 216 := by decide +kernel
def zL8 : List zCE := zL7 ++ (.inr (7, zSrF 1 201 217) :: zSrC 217)
theorem zL8_len : zL8.length = 219 := by decide +kernel
def zL9 : List zCE := zL8 ++ (.inr (5, zRtF 220) :: zRtC 220)
theorem zL9_len : zL9.length = 221 := by decide +kernel
def zL10 : List zCE := zL9 ++ (.inr (0, zCmF 222) :: zCmC 222)
theorem zL10_len : zL10.length = 225 := by decide +kernel
def zF0 : Nat → Nat → Int32 := fun q k => if q = 211 ∧ k < 2 then Int32.ofInt (-2) else 0
def zA0 : Nat → Nat → Int32 := fun q => if (q < 55 ∧ (q - 1) % 18 = 17) ∨ (57 ≤ q ∧ q < 201 ∧ (q - 57) % 18 = 17) then zRu8 else fun _ => 0
set_option maxRecDepth 100000 in
theorem zL_eq : zL10 = (List.range 225).map (fun j => cShape (j + 1) (zF0 (j + 1)) (zA0 (j + 1))) := by
  rfl
theorem con_X8 {w : zWd} {K : Option Value → zWd → Prop} (hb : w.1 = 1) (hx : w.2 0 = .inr (8, [.null, .null, .null, .int 0, .null, .null, .null, .null, .null, .null, .null])) (hK : K none (cW zF0 zA0)) : MOk (d + 3) mX8_init [.ref 0] w K := by
  obtain ⟨wn, wf⟩ := w
  dsimp only at hb hx
  subst hb
  refine MOk.same ?_
  refine MOk.mono (Q := fun r w2 => r = none ∧ Bld w2 wf 1 0 8 [.ref 1, .ref 19, .ref 37, .int 0, .ref 55, .ref 201, .ref 211, .ref 212, .ref 217, .ref 220, .ref 222] zL10) ?_ (fun r w2 h => ?_)
  rotate_left
  · obtain ⟨rfl, hB⟩ := h
    have e : w2.1 = 226 := by rw [hB.1, zL10_len]
    refine ⟨_, hK, e.symm, fun i hi => ?_⟩
    rw [e] at hi
    match i, hi with
    | 0, _ => exact hB.2.2.2.1.symm
    | i + 1, hi =>
      have := hB.2.2.2.2.2 i _ (by rw [zL_eq, List.getElem?_map, List.getElem?_range (by omega)]; rfl)
      rw [Nat.add_comm 1 i] at this
      exact this.symm
  generalize hKK : (fun (r : Option Value) w2 => r = none ∧ Bld w2 wf 1 0 8 [.ref 1, .ref 19, .ref 37, .int 0, .ref 55, .ref 201, .ref 211, .ref 212, .ref 217, .ref 220, .ref 222] zL10) = K
  have hK : ∀ w2, Bld w2 wf 1 0 8 [.ref 1, .ref 19, .ref 37, .int 0, .ref 55, .ref 201, .ref 211, .ref 212, .ref 217, .ref 220, .ref 222] zL10 → K none w2 := fun w2 h => by rw [← hKK]; exact ⟨rfl, h⟩
  refine MOk.body pl8 rfl (by simp [Value.category]) (Nat.le_of_ble_eq_true rfl) ?_
  have hB := Bld.start (w := (1, wf)) (p := 0) (Nat.lt_succ_self 0) (fun i hi => by
    have : i = 0 := by have : i < 1 := hi; omega
    subst this
    show zbC 1 (wf 0)
    rw [hx]
    exact fun q hq => by simp at hq) hx
  have hlv : ∀ q : Nat, some (Value.ref q) ∈ ([some (.ref 0)] : List (Option Value)) → q < 1 := fun q hq => by
    have : q = 0 := by simpa using hq
    omega
  refine Go.aload_n (x := 0) dX8_init_0 rfl ?_
  refine Go.objI dX8_init_1 (zr_1 _ (List.mem_of_getElem? (i := 9) rfl)) (by simp) ?_
  show Go mX8_init (d + 3) 1 4 [some (.ref 0)] [] (1, wf) 225 5764 K
  generalize hw0 : (1, wf) = w' at hB ⊢
  have hB : Bld w' wf 1 0 8 [.null, .null, .null, .int 0, .null, .null, .null, .null, .null, .null, .null] [] := by subst hw0; exact hB
  clear hw0
  refine Go.mkO2 (W0 := wf) (n0 := 1) (p := 0) (ci := 8) (cj := 3) (N := 13) (pe := 12) (q := mX3_init) (as := []) (fs0 := [.int 0, .null, .null, .null, .null, .null, .null, .int 0, .null, .null, .null, .null, .null]) (fsX := zPnF 1) (csX := zPnC 1) (idn := 7) (idx := 10) (k := 0) hB (by rw [List.length_nil]; decide) rfl hlv dX8_init_4 dX8_init_5 dX8_init_8 dX8_init_12 (by decide) rfl rfl (zr_1 _ (List.mem_of_getElem? (i := 12) rfl)) (zr_1 _ (List.mem_of_getElem? (i := 13) rfl)) (zr_1 _ (List.mem_of_getElem? (i := 14) rfl)) (fun j hj => by have h : j < 13 := hj; exact (by decide : ∀ j, j < 13 → defaultValue (zFt 3 j) = vp_V [.int 0, .null, .null, .null, .null, .null, .null, .int 0, .null, .null, .null, .null, .null] j) j h) (fun _ => rfl) (fun v hv => by simp at hv) (fun w2 rc2 rs2 e1 e2 e3 e4 e5 e6 h => Go.callI (As := []) (rest := [.ref w'.1, .ref 0]) dX8_init_9 l_8_9 rfl rfl (by simp [Value.category]) e5 e6 e4 (zfrL_lt e3) h) (fun w2 K e1 e9 e2 e3 h => by have ew : w'.1 = 1 := e9.trans (by rw [List.length_nil]); rw [ew] at e1 e3 h ⊢; exact con_X3 w2 _ K e1 e2 e3 h) f_8_10 (Nat.le_of_ble_eq_true rfl) rfl (Or.inr ⟨rfl, rfl⟩) (by decide) (by decide) (fun w' hB => ?_)
  rw [List.length_nil] at hB
  replace hB : Bld w' wf 1 0 8 [.ref 1, .null, .null, .int 0, .null, .null, .null, .null, .null, .null, .null] zL1 := hB
  show Go mX8_init (d + 3) 1 15 [some (.ref 0)] [] w' 207 5431 K
  refine Go.mkO2 (W0 := wf) (n0 := 1) (p := 0) (ci := 8) (cj := 3) (N := 13) (pe := 23) (q := mX3_init) (as := []) (fs0 := [.int 0, .null, .null, .null, .null, .null, .null, .int 0, .null, .null, .null, .null, .null]) (fsX := zPnF 19) (csX := zPnC 19) (idn := 7) (idx := 16) (k := 1) hB (by rw [zL1_len]; decide) rfl hlv dX8_init_15 dX8_init_16 dX8_init_19 dX8_init_23 (by decide) rfl rfl (zr_1 _ (List.mem_of_getElem? (i := 12) rfl)) (zr_1 _ (List.mem_of_getElem? (i := 13) rfl)) (zr_1 _ (List.mem_of_getElem? (i := 14) rfl)) (fun j hj => by have h : j < 13 := hj; exact (by decide : ∀ j, j < 13 → defaultValue (zFt 3 j) = vp_V [.int 0, .null, .null, .null, .null, .null, .null, .int 0, .null, .null, .null, .null, .null] j) j h) (fun _ => rfl) (fun v hv => by simp at hv) (fun w2 rc2 rs2 e1 e2 e3 e4 e5 e6 h => Go.callI (As := []) (rest := [.ref w'.1, .ref 0]) dX8_init_20 l_8_9 rfl rfl (by simp [Value.category]) e5 e6 e4 (zfrL_lt e3) h) (fun w2 K e1 e9 e2 e3 h => by have ew : w'.1 = 19 := e9.trans (by rw [zL1_len]); rw [ew] at e1 e3 h ⊢; exact con_X3 w2 _ K e1 e2 e3 h) f_8_16 (Nat.le_of_ble_eq_true rfl) rfl (Or.inr ⟨rfl, rfl⟩) (by decide) (by decide) (fun w' hB => ?_)
  rw [zL1_len] at hB
  replace hB : Bld w' wf 1 0 8 [.ref 1, .ref 19, .null, .int 0, .null, .null, .null, .null, .null, .null, .null] zL2 := hB
  show Go mX8_init (d + 3) 1 26 [some (.ref 0)] [] w' 189 5098 K
  refine Go.mkO2 (W0 := wf) (n0 := 1) (p := 0) (ci := 8) (cj := 3) (N := 13) (pe := 34) (q := mX3_init) (as := []) (fs0 := [.int 0, .null, .null, .null, .null, .null, .null, .int 0, .null, .null, .null, .null, .null]) (fsX := zPnF 37) (csX := zPnC 37) (idn := 7) (idx := 19) (k := 2) hB (by rw [zL2_len]; decide) rfl hlv dX8_init_26 dX8_init_27 dX8_init_30 dX8_init_34 (by decide) rfl rfl (zr_1 _ (List.mem_of_getElem? (i := 12) rfl)) (zr_1 _ (List.mem_of_getElem? (i := 13) rfl)) (zr_1 _ (List.mem_of_getElem? (i := 14) rfl)) (fun j hj => by have h : j < 13 := hj; exact (by decide : ∀ j, j < 13 → defaultValue (zFt 3 j) = vp_V [.int 0, .null, .null, .null, .null, .null, .null, .int 0, .null, .null, .null, .null, .null] j) j h) (fun _ => rfl) (fun v hv => by simp at hv) (fun w2 rc2 rs2 e1 e2 e3 e4 e5 e6 h => Go.callI (As := []) (rest := [.ref w'.1, .ref 0]) dX8_init_31 l_8_9 rfl rfl (by simp [Value.category]) e5 e6 e4 (zfrL_lt e3) h) (fun w2 K e1 e9 e2 e3 h => by have ew : w'.1 = 37 := e9.trans (by rw [zL2_len]); rw [ew] at e1 e3 h ⊢; exact con_X3 w2 _ K e1 e2 e3 h) f_8_19 (Nat.le_of_ble_eq_true rfl) rfl (Or.inr ⟨rfl, rfl⟩) (by decide) (by decide) (fun w' hB => ?_)
  rw [zL2_len] at hB
  replace hB : Bld w' wf 1 0 8 [.ref 1, .ref 19, .ref 37, .int 0, .null, .null, .null, .null, .null, .null, .null] zL3 := hB
  show Go mX8_init (d + 3) 1 37 [some (.ref 0)] [] w' 171 4765 K
  refine Go.aload_n dX8_init_37 rfl (Go.pI dX8_init_38 ?_)
  refine Go.putf dX8_init_39 f_8_22 hB.lt hB.2.2.2.1 (Nat.le_of_ble_eq_true rfl) ⟨rfl, rfl⟩ (Or.inl rfl) ?_
  replace hB := hB.set (k := 3) (v := .int (Int32.ofInt 0)) (fun q e => by cases e)
  generalize zup w' 0 (.inr (8, _)) = w' at hB ⊢
  replace hB : Bld w' wf 1 0 8 [.ref 1, .ref 19, .ref 37, .int 0, .null, .null, .null, .null, .null, .null, .null] zL3 := hB
  show Go mX8_init (d + 3) 1 42 [some (.ref 0)] [] w' 171 4765 K
  refine Go.mkO2 (W0 := wf) (n0 := 1) (p := 0) (ci := 8) (cj := 1) (N := 3) (pe := 50) (q := mX1_init) (as := []) (fs0 := [.null, .int 0, .int 0]) (fsX := zHyF 55) (csX := zHyC 55) (idn := 26) (idx := 29) (k := 4) hB (by rw [zL3_len]; decide) rfl hlv dX8_init_42 dX8_init_43 dX8_init_46 dX8_init_50 (by decide) rfl rfl (zr_1 _ (List.mem_of_getElem? (i := 19) rfl)) (zr_1 _ (List.mem_of_getElem? (i := 20) rfl)) (zr_1 _ (List.mem_of_getElem? (i := 21) rfl)) (fun j hj => by have h : j < 3 := hj; exact (by decide : ∀ j, j < 3 → defaultValue (zFt 1 j) = vp_V [.null, .int 0, .int 0] j) j h) (fun _ => rfl) (fun v hv => by simp at hv) (fun w2 rc2 rs2 e1 e2 e3 e4 e5 e6 h => Go.callI (As := []) (rest := [.ref w'.1, .ref 0]) dX8_init_47 l_8_28 rfl rfl (by simp [Value.category]) e5 e6 e4 (zfrL_lt e3) h) (fun w2 K e1 e9 e2 e3 h => by have ew : w'.1 = 55 := e9.trans (by rw [zL3_len]); rw [ew] at e1 e3 h ⊢; exact con_X1 w2 _ K e1 e2 e3 h) f_8_29 (Nat.le_of_ble_eq_true rfl) rfl (Or.inr ⟨rfl, rfl⟩) (by decide) (by decide) (fun w' hB => ?_)
  rw [zL3_len] at hB
  replace hB : Bld w' wf 1 0 8 [.ref 1, .ref 19, .ref 37, .int 0, .ref 55, .null, .null, .null, .null, .null, .null] zL4 := hB
  show Go mX8_init (d + 3) 1 53 [some (.ref 0)] [] w' 25 2090 K
  refine Go.mkO2 (W0 := wf) (n0 := 1) (p := 0) (ci := 8) (cj := 6) (N := 14) (pe := 65) (q := mX6_init) (as := [.ref 1]) (fs0 := [.null, .int 0, .int 0, .null, .null, .null, .null, .int 0, .null, .null, .null, .int 0, .null, .null]) (fsX := zWkF 1 201) (csX := zWkC 201) (idn := 33) (idx := 38) (k := 5) hB (by rw [zL4_len]; decide) rfl hlv dX8_init_53 dX8_init_54 dX8_init_57 dX8_init_65 (by decide) rfl rfl (zr_1 _ (List.mem_of_getElem? (i := 23) rfl)) (zr_2 _ (List.mem_of_getElem? (i := 0) rfl)) (zr_2 _ (List.mem_of_getElem? (i := 1) rfl)) (fun j hj => by have h : j < 14 := hj; exact (by decide : ∀ j, j < 14 → defaultValue (zFt 6 j) = vp_V [.null, .int 0, .int 0, .null, .null, .null, .null, .int 0, .null, .null, .null, .int 0, .null, .null] j) j h) (fun _ => rfl) (fun v hv => by simp at hv) (fun w2 rc2 rs2 e1 e2 e3 e4 e5 e6 h => Go.aload_n dX8_init_58 rfl (Go.getf (ci := 8) (k := 0) (v := .ref 1) dX8_init_59 f_8_10 e2.lt e2.2.2.2.1 rfl (Go.callI (As := [.ref 1]) (rest := [.ref w'.1, .ref 0]) dX8_init_62 l_8_35 rfl rfl (by simp [Value.category]) e5 e6 e4 (zfrL_lt e3) h))) (fun w2 K e1 e9 e2 e3 h => by have ew : w'.1 = 201 := e9.trans (by rw [zL4_len]); rw [ew] at e1 e3 h ⊢; exact con_X6 e1 (by decide) e2 e3 h) f_8_38 (Nat.le_of_ble_eq_true rfl) rfl (Or.inr ⟨rfl, rfl⟩) (by decide) (by decide) (fun w' hB => ?_)
  rw [zL4_len] at hB
  replace hB : Bld w' wf 1 0 8 [.ref 1, .ref 19, .ref 37, .int 0, .ref 55, .ref 201, .null, .null, .null, .null, .null] zL5 := hB
  show Go mX8_init (d + 3) 1 68 [some (.ref 0)] [] w' 15 1572 K
  refine Go.mkO2 (W0 := wf) (n0 := 1) (p := 0) (ci := 8) (cj := 2) (N := 4) (pe := 76) (q := mX2_init) (as := []) (fs0 := [.int 0, .int 0, .int 0, .int 0]) (fsX := zOfF 211) (csX := zOfC 211) (idn := 42) (idx := 45) (k := 6) hB (by rw [zL5_len]; decide) rfl hlv dX8_init_68 dX8_init_69 dX8_init_72 dX8_init_76 (by decide) rfl rfl (zr_2 _ (List.mem_of_getElem? (i := 3) rfl)) (zr_2 _ (List.mem_of_getElem? (i := 4) rfl)) (zr_2 _ (List.mem_of_getElem? (i := 5) rfl)) (fun j hj => by have h : j < 4 := hj; exact (by decide : ∀ j, j < 4 → defaultValue (zFt 2 j) = vp_V [.int 0, .int 0, .int 0, .int 0] j) j h) (fun _ => rfl) (fun v hv => by simp at hv) (fun w2 rc2 rs2 e1 e2 e3 e4 e5 e6 h => Go.callN (q := mX2_init) (rest := [.ref w'.1, .ref 0]) dX8_init_73 rfl (fun _ h => h.1) (zr_4 _ (List.mem_of_getElem? (i := 19) rfl)) (zr_4 _ (List.mem_of_getElem? (i := 18) rfl)) (zr_2 _ (List.mem_of_getElem? (i := 5) rfl)) rfl rfl ⟨by decide, by decide, by decide⟩ (by decide) (by simp [Value.category]) e5 e6 e4 (zfrL_lt e3) h) (fun w2 K e1 e9 e2 e3 h => by have ew : w'.1 = 211 := e9.trans (by rw [zL5_len]); rw [ew] at e1 e3 h ⊢; exact con_X2 w2 _ K e1 e2 e3 h) f_8_45 (Nat.le_of_ble_eq_true rfl) rfl (Or.inr ⟨rfl, rfl⟩) (by decide) (by decide) (fun w' hB => ?_)
  rw [zL5_len] at hB
  replace hB : Bld w' wf 1 0 8 [.ref 1, .ref 19, .ref 37, .int 0, .ref 55, .ref 201, .ref 211, .null, .null, .null, .null] zL6 := hB
  show Go mX8_init (d + 3) 1 79 [some (.ref 0)] [] w' 14 1568 K
  refine Go.mkO2 (W0 := wf) (n0 := 1) (p := 0) (ci := 8) (cj := 4) (N := 5) (pe := 87) (q := mX4_init) (as := []) (fs0 := [.int 0, .null, .null, .null, .null]) (fsX := zRpF 212) (csX := zRpC 212) (idn := 49) (idx := 52) (k := 7) hB (by rw [zL6_len]; decide) rfl hlv dX8_init_79 dX8_init_80 dX8_init_83 dX8_init_87 (by decide) rfl rfl (zr_2 _ (List.mem_of_getElem? (i := 7) rfl)) (zr_2 _ (List.mem_of_getElem? (i := 8) rfl)) (zr_2 _ (List.mem_of_getElem? (i := 9) rfl)) (fun j hj => by have h : j < 5 := hj; exact (by decide : ∀ j, j < 5 → defaultValue (zFt 4 j) = vp_V [.int 0, .null, .null, .null, .null] j) j h) (fun _ => rfl) (fun v hv => by simp at hv) (fun w2 rc2 rs2 e1 e2 e3 e4 e5 e6 h => Go.callN (q := mX4_init) (rest := [.ref w'.1, .ref 0]) dX8_init_84 rfl (fun _ h => h.2.1) (zr_5 _ (List.mem_of_getElem? (i := 0) rfl)) (zr_4 _ (List.mem_of_getElem? (i := 23) rfl)) (zr_2 _ (List.mem_of_getElem? (i := 9) rfl)) rfl rfl ⟨by decide, by decide, by decide⟩ (by decide) (by simp [Value.category]) e5 e6 e4 (zfrL_lt e3) h) (fun w2 K e1 e9 e2 e3 h => by have ew : w'.1 = 212 := e9.trans (by rw [zL6_len]); rw [ew] at e1 e3 h ⊢; exact con_X4 w2 _ K e1 e2 e3 h) f_8_52 (Nat.le_of_ble_eq_true rfl) rfl (Or.inr ⟨rfl, rfl⟩) (by decide) (by decide) (fun w' hB => ?_)
  rw [zL6_len] at hB
  replace hB : Bld w' wf 1 0 8 [.ref 1, .ref 19, .ref 37, .int 0, .ref 55, .ref 201, .ref 211, .ref 212, .null, .null, .null] zL7 := hB
  show Go mX8_init (d + 3) 1 90 [some (.ref 0)] [] w' 9 987 K
  refine Go.mkO2 (W0 := wf) (n0 := 1) (p := 0) (ci := 8) (cj := 7) (N := 7) (pe := 106) (q := mX7_init) (as := [.ref 1, .ref 201]) (fs0 := [.null, .null, .null, .int 0, .null, .int 0, .int 0]) (fsX := zSrF 1 201 217) (csX := zSrC 217) (idn := 56) (idx := 61) (k := 8) hB (by rw [zL7_len]; decide) rfl hlv dX8_init_90 dX8_init_91 dX8_init_94 dX8_init_106 (by decide) rfl rfl (zr_2 _ (List.mem_of_getElem? (i := 11) rfl)) (zr_2 _ (List.mem_of_getElem? (i := 12) rfl)) (zr_2 _ (List.mem_of_getElem? (i := 13) rfl)) (fun j hj => by have h : j < 7 := hj; exact (by decide : ∀ j, j < 7 → defaultValue (zFt 7 j) = vp_V [.null, .null, .null, .int 0, .null, .int 0, .int 0] j) j h) (fun _ => rfl) (fun v hv => by simp at hv) (fun w2 rc2 rs2 e1 e2 e3 e4 e5 e6 h => Go.aload_n dX8_init_95 rfl (Go.getf (ci := 8) (k := 0) (v := .ref 1) dX8_init_96 f_8_10 e2.lt e2.2.2.2.1 rfl (Go.aload_n dX8_init_99 rfl (Go.getf (ci := 8) (k := 5) (v := .ref 201) dX8_init_100 f_8_38 e2.lt e2.2.2.2.1 rfl (Go.callI (As := [.ref 1, .ref 201]) (rest := [.ref w'.1, .ref 0]) dX8_init_103 l_8_58 rfl rfl (by simp [Value.category]) e5 e6 e4 (zfrL_lt e3) h))))) (fun w2 K e1 e9 e2 e3 h => by have ew : w'.1 = 217 := e9.trans (by rw [zL7_len]); rw [ew] at e1 e3 h ⊢; exact con_X7 e1 (by decide) (by decide) e2 e3 h) f_8_61 (Nat.le_of_ble_eq_true rfl) rfl (Or.inr ⟨rfl, rfl⟩) (by decide) (by decide) (fun w' hB => ?_)
  rw [zL7_len] at hB
  replace hB : Bld w' wf 1 0 8 [.ref 1, .ref 19, .ref 37, .int 0, .ref 55, .ref 201, .ref 211, .ref 212, .ref 217, .null, .null] zL8 := hB
  show Go mX8_init (d + 3) 1 109 [some (.ref 0)] [] w' 6 968 K
  refine Go.mkO2 (W0 := wf) (n0 := 1) (p := 0) (ci := 8) (cj := 5) (N := 2) (pe := 117) (q := mX5_init) (as := []) (fs0 := [.null, .int 0]) (fsX := zRtF 220) (csX := zRtC 220) (idn := 65) (idx := 68) (k := 9) hB (by rw [zL8_len]; decide) rfl hlv dX8_init_109 dX8_init_110 dX8_init_113 dX8_init_117 (by decide) rfl rfl (zr_2 _ (List.mem_of_getElem? (i := 15) rfl)) (zr_2 _ (List.mem_of_getElem? (i := 16) rfl)) (zr_2 _ (List.mem_of_getElem? (i := 17) rfl)) (fun j hj => by have h : j < 2 := hj; exact (by decide : ∀ j, j < 2 → defaultValue (zFt 5 j) = vp_V [.null, .int 0] j) j h) (fun _ => rfl) (fun v hv => by simp at hv) (fun w2 rc2 rs2 e1 e2 e3 e4 e5 e6 h => Go.callN (q := mX5_init) (rest := [.ref w'.1, .ref 0]) dX8_init_114 rfl (fun _ h => h.2.2.1) (zr_5 _ (List.mem_of_getElem? (i := 15) rfl)) (zr_5 _ (List.mem_of_getElem? (i := 14) rfl)) (zr_2 _ (List.mem_of_getElem? (i := 17) rfl)) rfl rfl ⟨by decide, by decide, by decide⟩ (by decide) (by simp [Value.category]) e5 e6 e4 (zfrL_lt e3) h) (fun w2 K e1 e9 e2 e3 h => by have ew : w'.1 = 220 := e9.trans (by rw [zL8_len]); rw [ew] at e1 e3 h ⊢; exact con_X5 w2 _ K e1 e2 e3 h) f_8_68 (Nat.le_of_ble_eq_true rfl) rfl (Or.inr ⟨rfl, rfl⟩) (by decide) (by decide) (fun w' hB => ?_)
  rw [zL8_len] at hB
  replace hB : Bld w' wf 1 0 8 [.ref 1, .ref 19, .ref 37, .int 0, .ref 55, .ref 201, .ref 211, .ref 212, .ref 217, .ref 220, .null] zL9 := hB
  show Go mX8_init (d + 3) 1 120 [some (.ref 0)] [] w' 4 366 K
  refine Go.mkO2 (W0 := wf) (n0 := 1) (p := 0) (ci := 8) (cj := 0) (N := 6) (pe := 128) (q := mX0_init) (as := []) (fs0 := [.null, .int 0, .int 0, .int 0, .null, .null]) (fsX := zCmF 222) (csX := zCmC 222) (idn := 72) (idx := 75) (k := 10) hB (by rw [zL9_len]; decide) rfl hlv dX8_init_120 dX8_init_121 dX8_init_124 dX8_init_128 (by decide) rfl rfl (zr_2 _ (List.mem_of_getElem? (i := 19) rfl)) (zr_2 _ (List.mem_of_getElem? (i := 20) rfl)) (zr_2 _ (List.mem_of_getElem? (i := 21) rfl)) (fun j hj => by have h : j < 6 := hj; exact (by decide : ∀ j, j < 6 → defaultValue (zFt 0 j) = vp_V [.null, .int 0, .int 0, .int 0, .null, .null] j) j h) (fun _ => rfl) (fun v hv => by simp at hv) (fun w2 rc2 rs2 e1 e2 e3 e4 e5 e6 h => Go.callN (q := mX0_init) (rest := [.ref w'.1, .ref 0]) dX8_init_125 rfl (fun _ h => h.2.2.2) (zr_5 _ (List.mem_of_getElem? (i := 20) rfl)) (zr_5 _ (List.mem_of_getElem? (i := 19) rfl)) (zr_2 _ (List.mem_of_getElem? (i := 21) rfl)) rfl rfl ⟨by decide, by decide, by decide⟩ (by decide) (by simp [Value.category]) e5 e6 e4 (zfrL_lt e3) h) (fun w2 K e1 e9 e2 e3 h => by have ew : w'.1 = 222 := e9.trans (by rw [zL9_len]); rw [ew] at e1 e3 h ⊢; exact con_X0 w2 _ K e1 e2 e3 h) f_8_75 (Nat.le_of_ble_eq_true rfl) rfl (Or.inr ⟨rfl, rfl⟩) (by decide) (by decide) (fun w' hB => ?_)
  rw [zL9_len] at hB
  replace hB : Bld w' wf 1 0 8 [.ref 1, .ref 19, .ref 37, .int 0, .ref 55, .ref 201, .ref 211, .ref 212, .ref 217, .ref 220, .ref 222] zL10 := hB
  show Go mX8_init (d + 3) 1 131 [some (.ref 0)] [] w' 0 0 K
  exact Go.vret dX8_init_131 rfl (hK _ hB) ⟨rfl, rfl⟩
end ZCU
