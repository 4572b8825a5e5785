/-! the class's constructors -/
theorem Bld.upd {w : zWd} {W0 : Nat → zCE} {n0 p ci : Nat} {fs : List Value} {cs : List zCE} {j : Nat} {x : zCE} (h : Bld w W0 n0 p ci fs cs) (hj : j < cs.length) (hx : zbC w.1 x) : Bld (zup w (n0 + j) x) W0 n0 p ci fs (cs.set j x) := by
  obtain ⟨h1, h2, h3, h4, h5, h6⟩ := h
  have o : ∀ i, i ≠ n0 + j → (zup w (n0 + j) x).2 i = w.2 i := fun i hi => if_neg hi
  have op : (zup w (n0 + j) x).2 (n0 + j) = x := if_pos rfl
  refine ⟨by rw [List.length_set]; exact h1, h2, fun i hi => ?_, by rw [o p (by omega)]; exact h4, fun i hi hp => by rw [o i (by omega)]; exact h5 i hi hp, fun i y hi => ?_⟩
  · have hi : i < w.1 := hi
    by_cases e : i = n0 + j
    · subst e; rw [op]; exact hx
    · rw [o i e]; exact h3 i hi
  · by_cases e : i = j
    · subst e
      rw [List.getElem?_set_self hj] at hi
      rw [op]; exact Option.some.inj hi
    · rw [List.getElem?_set_ne (Ne.symm e)] at hi
      rw [o _ (by omega)]; exact h6 i y hi
theorem Bld.mul {w : zWd} {W0 : Nat → zCE} {n0 p ci N K : Nat} {fs : List Value} {cs : List zCE} (h : Bld w W0 n0 p ci fs cs) : Bld (zmul w N K) W0 n0 p ci fs (cs ++ (.inl (3, N, .inr (.inr (.inr (.inr (fun j => if j < N then some (n0 + cs.length + 1 + j) else none))))) :: List.replicate N (.inl (0, K, .inl (fun _ => 0))))) := by
  obtain ⟨h1, h2, h3, h4, h5, h6⟩ := h
  have o : ∀ i, i < w.1 → (zmul w N K).2 i = w.2 i := fun i hi => if_pos hi
  have om : (zmul w N K).2 w.1 = .inl (3, N, .inr (.inr (.inr (.inr (fun j => if j < N then some (w.1 + 1 + j) else none))))) := (if_neg (by omega)).trans (if_pos rfl)
  have or : ∀ i, w.1 < i → (zmul w N K).2 i = .inl (0, K, .inl (fun _ => 0)) := fun i hi => (if_neg (by omega)).trans (if_neg (by omega))
  refine ⟨by show w.1 + 1 + N = _; simp; omega, h2, fun i hi => ?_, by rw [o p (by omega)]; exact h4, fun i hi hp => by rw [o i (by omega)]; exact h5 i hi hp, fun j y hj => ?_⟩
  · have hi : i < w.1 + 1 + N := hi
    show zbC (w.1 + 1 + N) _
    rcases Nat.lt_trichotomy i w.1 with e | e | e
    · rw [o i e]; exact (h3 i e).mono (by omega)
    · subst e
      rw [om]
      intro i q hq
      dsimp only at hq
      split at hq
      · cases hq; omega
      · cases hq
    · rw [or i e]; exact trivial
  · rcases Nat.lt_trichotomy j cs.length with e | e | e
    · rw [List.getElem?_append_left e] at hj
      rw [o _ (by omega)]; exact h6 j y hj
    · subst e
      rw [List.getElem?_append_right (Nat.le_refl _), Nat.sub_self, List.getElem?_cons_zero] at hj
      rw [← h1, om, h1]; exact Option.some.inj hj
    · rw [List.getElem?_append_right (by omega)] at hj
      obtain ⟨i, hi⟩ : ∃ i, j - cs.length = i + 1 := ⟨j - cs.length - 1, by omega⟩
      rw [hi, List.getElem?_cons_succ, List.getElem?_replicate] at hj
      rw [or _ (by omega)]
      split at hj
      · exact Option.some.inj hj
      · cases hj
def zRu8 : Nat → Int32 := va_cpy (fun i => (zStL 2).getD i 0) (fun _ => 0) 0 0 8
section ZCS
def zRpF (b : Nat) : List Value := [.int 0, .ref (b + 1), .ref (b + 2), .ref (b + 3), .ref (b + 4)]
def zRpC (b : Nat) : List zCE := [.inl (0, 144, .inl (fun _ => 0)), .inl (0, 144, .inl (fun _ => 0)), .inl (1, 144, .inl (fun _ => 0)), .inl (0, 144, .inl (fun _ => 0))]
theorem con_X4 {d : Nat} : Con (d + 1) mX4_init 4 [.int 0, .null, .null, .null, .null] zRpF zRpC := by
  intro w b K hb hw hx hK
  obtain ⟨wn, wf⟩ := w
  dsimp only at hb hw hx hK
  subst hb
  refine MOk.body pl4 rfl (by simp [Value.category]) (Nat.le_of_ble_eq_true rfl) ?_
  refine Go.hz (fun hz => ?_)
  have hz : b + 1 + 4 ≤ zB := hz
  have hB := Bld.start (w := (b + 1, wf)) (Nat.lt_succ_self b) hw hx
  have hlv : ∀ q : Nat, some (Value.ref q) ∈ ([some (.ref b)] : List (Option Value)) → q < b + 1 := fun q hq => by
    have : q = b := by simpa using hq
    omega
  refine Go.aload_n (x := b) dX4_init_0 rfl ?_
  refine Go.objI dX4_init_1 (zr_5 _ (List.mem_of_getElem? (i := 1) rfl)) (by simp) ?_
  show Go mX4_init (d + 1) (b + 1) 4 [some (.ref b)] [] (b + 1, wf) 4 576 K
  refine Go.mkf (W0 := wf) (n0 := b + 1) (p := b) (ci := 4) (idx := 9) (k := 1) (t := 0) (N := 144) hB (by show b + 1 + 0 < zB; omega) rfl hlv dX4_init_4 (Go.pS dX4_init_5 (by decide)) dX4_init_8 dX4_init_10 (by decide) rfl (zr_3 _ (List.mem_of_getElem? (i := 3) rfl)) rfl (by decide) rfl (by decide) f_4_9 (Nat.le_of_ble_eq_true rfl) rfl (Or.inr ⟨rfl, rfl⟩) (by decide) (by decide) (fun w' hB => ?_)
  replace hB : Bld w' wf (b + 1) b 4 [.int 0, .ref (b + 1), .null, .null, .null] [.inl (0, 144, .inl (fun _ => 0))] := hB
  show Go mX4_init (d + 1) (b + 1) 13 [some (.ref b)] [] w' 3 432 K
  refine Go.mkf (W0 := wf) (n0 := b + 1) (p := b) (ci := 4) (idx := 15) (k := 2) (t := 0) (N := 144) hB (by show b + 1 + 1 < zB; omega) rfl hlv dX4_init_13 (Go.pS dX4_init_14 (by decide)) dX4_init_17 dX4_init_19 (by decide) rfl (zr_3 _ (List.mem_of_getElem? (i := 3) rfl)) rfl (by decide) rfl (by decide) f_4_15 (Nat.le_of_ble_eq_true rfl) rfl (Or.inr ⟨rfl, rfl⟩) (by decide) (by decide) (fun w' hB => ?_)
  replace hB : Bld w' wf (b + 1) b 4 [.int 0, .ref (b + 1), .ref (b + 2), .null, .null] [.inl (0, 144, .inl (fun _ => 0)), .inl (0, 144, .inl (fun _ => 0))] := hB
  show Go mX4_init (d + 1) (b + 1) 22 [some (.ref b)] [] w' 2 288 K
  refine Go.mkf (W0 := wf) (n0 := b + 1) (p := b) (ci := 4) (idx := 18) (k := 3) (t := 1) (N := 144) hB (by show b + 1 + 2 < zB; omega) rfl hlv dX4_init_22 (Go.pS dX4_init_23 (by decide)) dX4_init_26 dX4_init_28 (by decide) rfl (zr_4 _ (List.mem_of_getElem? (i := 8) rfl)) rfl (by decide) rfl (by decide) f_4_18 (Nat.le_of_ble_eq_true rfl) rfl (Or.inr ⟨rfl, rfl⟩) (by decide) (by decide) (fun w' hB => ?_)
  replace hB : Bld w' wf (b + 1) b 4 [.int 0, .ref (b + 1), .ref (b + 2), .ref (b + 3), .null] [.inl (0, 144, .inl (fun _ => 0)), .inl (0, 144, .inl (fun _ => 0)), .inl (1, 144, .inl (fun _ => 0))] := hB
  show Go mX4_init (d + 1) (b + 1) 31 [some (.ref b)] [] w' 1 144 K
  refine Go.mkf (W0 := wf) (n0 := b + 1) (p := b) (ci := 4) (idx := 22) (k := 4) (t := 0) (N := 144) hB (by show b + 1 + 3 < zB; omega) rfl hlv dX4_init_31 (Go.pS dX4_init_32 (by decide)) dX4_init_35 dX4_init_37 (by decide) rfl (zr_3 _ (List.mem_of_getElem? (i := 3) rfl)) rfl (by decide) rfl (by decide) f_4_22 (Nat.le_of_ble_eq_true rfl) rfl (Or.inr ⟨rfl, rfl⟩) (by decide) (by decide) (fun w' hB => ?_)
  replace hB : Bld w' wf (b + 1) b 4 [.int 0, .ref (b + 1), .ref (b + 2), .ref (b + 3), .ref (b + 4)] [.inl (0, 144, .inl (fun _ => 0)), .inl (0, 144, .inl (fun _ => 0)), .inl (1, 144, .inl (fun _ => 0)), .inl (0, 144, .inl (fun _ => 0))] := hB
  show Go mX4_init (d + 1) (b + 1) 40 [some (.ref b)] [] w' 0 0 K
  exact Go.vret dX4_init_40 rfl (hK _ hB) ⟨rfl, rfl⟩
def zRtF (b : Nat) : List Value := [.ref (b + 1), .int 0]
def zRtC (b : Nat) : List zCE := [.inl (2, 600, .inl (fun _ => 0))]
theorem con_X5 {d : Nat} : Con (d + 1) mX5_init 5 [.null, .int 0] zRtF zRtC := by
  intro w b K hb hw hx hK
  obtain ⟨wn, wf⟩ := w
  dsimp only at hb hw hx hK
  subst hb
  refine MOk.body pl5 rfl (by simp [Value.category]) (Nat.le_of_ble_eq_true rfl) ?_
  refine Go.hz (fun hz => ?_)
  have hz : b + 1 + 1 ≤ zB := hz
  have hB := Bld.start (w := (b + 1, wf)) (Nat.lt_succ_self b) hw hx
  have hlv : ∀ q : Nat, some (Value.ref q) ∈ ([some (.ref b)] : List (Option Value)) → q < b + 1 := fun q hq => by
    have : q = b := by simpa using hq
    omega
  refine Go.aload_n (x := b) dX5_init_0 rfl ?_
  refine Go.objI dX5_init_1 (zr_5 _ (List.mem_of_getElem? (i := 16) rfl)) (by simp) ?_
  show Go mX5_init (d + 1) (b + 1) 4 [some (.ref b)] [] (b + 1, wf) 1 600 K
  refine Go.mkf (W0 := wf) (n0 := b + 1) (p := b) (ci := 5) (idx := 9) (k := 0) (t := 2) (N := 600) hB (by show b + 1 + 0 < zB; omega) rfl hlv dX5_init_4 (Go.pS dX5_init_5 (by decide)) dX5_init_8 dX5_init_10 (by decide) rfl (zr_5 _ (List.mem_of_getElem? (i := 17) rfl)) rfl (by decide) rfl (by decide) f_5_9 (Nat.le_of_ble_eq_true rfl) rfl (Or.inr ⟨rfl, rfl⟩) (by decide) (by decide) (fun w' hB => ?_)
  replace hB : Bld w' wf (b + 1) b 5 [.ref (b + 1), .int 0] [.inl (2, 600, .inl (fun _ => 0))] := hB
  show Go mX5_init (d + 1) (b + 1) 13 [some (.ref b)] [] w' 0 0 K
  exact Go.vret dX5_init_13 rfl (hK _ hB) ⟨rfl, rfl⟩
def zCmF (b : Nat) : List Value := [.ref (b + 1), .int 0, .int 0, .int 0, .ref (b + 2), .ref (b + 3)]
def zCmC (b : Nat) : List zCE := [.inl (2, 60, .inl (fun _ => 0)), .inl (0, 60, .inl (fun _ => 0)), .inl (0, 240, .inl (fun _ => 0))]
theorem con_X0 {d : Nat} : Con (d + 1) mX0_init 0 [.null, .int 0, .int 0, .int 0, .null, .null] zCmF zCmC := by
  intro w b K hb hw hx hK
  obtain ⟨wn, wf⟩ := w
  dsimp only at hb hw hx hK
  subst hb
  refine MOk.body pl0 rfl (by simp [Value.category]) (Nat.le_of_ble_eq_true rfl) ?_
  refine Go.hz (fun hz => ?_)
  have hz : b + 1 + 3 ≤ zB := hz
  have hB := Bld.start (w := (b + 1, wf)) (Nat.lt_succ_self b) hw hx
  have hlv : ∀ q : Nat, some (Value.ref q) ∈ ([some (.ref b)] : List (Option Value)) → q < b + 1 := fun q hq => by
    have : q = b := by simpa using hq
    omega
  refine Go.aload_n (x := b) dX0_init_0 rfl ?_
  refine Go.objI dX0_init_1 (zr_5 _ (List.mem_of_getElem? (i := 21) rfl)) (by simp) ?_
  show Go mX0_init (d + 1) (b + 1) 4 [some (.ref b)] [] (b + 1, wf) 3 360 K
  refine Go.mkf (W0 := wf) (n0 := b + 1) (p := b) (ci := 0) (idx := 9) (k := 0) (t := 2) (N := 60) hB (by show b + 1 + 0 < zB; omega) rfl hlv dX0_init_4 (Go.pB dX0_init_5 (by decide)) dX0_init_7 dX0_init_9 (by decide) rfl (zr_5 _ (List.mem_of_getElem? (i := 17) rfl)) rfl (by decide) rfl (by decide) f_0_9 (Nat.le_of_ble_eq_true rfl) rfl (Or.inr ⟨rfl, rfl⟩) (by decide) (by decide) (fun w' hB => ?_)
  replace hB : Bld w' wf (b + 1) b 0 [.ref (b + 1), .int 0, .int 0, .int 0, .null, .null] [.inl (2, 60, .inl (fun _ => 0))] := hB
  show Go mX0_init (d + 1) (b + 1) 12 [some (.ref b)] [] w' 2 300 K
  refine Go.mkf (W0 := wf) (n0 := b + 1) (p := b) (ci := 0) (idx := 15) (k := 4) (t := 0) (N := 60) hB (by show b + 1 + 1 < zB; omega) rfl hlv dX0_init_12 (Go.pB dX0_init_13 (by decide)) dX0_init_15 dX0_init_17 (by decide) rfl (zr_3 _ (List.mem_of_getElem? (i := 3) rfl)) rfl (by decide) rfl (by decide) f_0_15 (Nat.le_of_ble_eq_true rfl) rfl (Or.inr ⟨rfl, rfl⟩) (by decide) (by decide) (fun w' hB => ?_)
  replace hB : Bld w' wf (b + 1) b 0 [.ref (b + 1), .int 0, .int 0, .int 0, .ref (b + 2), .null] [.inl (2, 60, .inl (fun _ => 0)), .inl (0, 60, .inl (fun _ => 0))] := hB
  show Go mX0_init (d + 1) (b + 1) 20 [some (.ref b)] [] w' 1 240 K
  refine Go.mkf (W0 := wf) (n0 := b + 1) (p := b) (ci := 0) (idx := 19) (k := 5) (t := 0) (N := 240) hB (by show b + 1 + 2 < zB; omega) rfl hlv dX0_init_20 (Go.pS dX0_init_21 (by decide)) dX0_init_24 dX0_init_26 (by decide) rfl (zr_3 _ (List.mem_of_getElem? (i := 3) rfl)) rfl (by decide) rfl (by decide) f_0_19 (Nat.le_of_ble_eq_true rfl) rfl (Or.inr ⟨rfl, rfl⟩) (by decide) (by decide) (fun w' hB => ?_)
  replace hB : Bld w' wf (b + 1) b 0 [.ref (b + 1), .int 0, .int 0, .int 0, .ref (b + 2), .ref (b + 3)] [.inl (2, 60, .inl (fun _ => 0)), .inl (0, 60, .inl (fun _ => 0)), .inl (0, 240, .inl (fun _ => 0))] := hB
  show Go mX0_init (d + 1) (b + 1) 29 [some (.ref b)] [] w' 0 0 K
  exact Go.vret dX0_init_29 rfl (hK _ hB) ⟨rfl, rfl⟩
def zOfF (_ : Nat) : List Value := [.int (Int32.ofInt (-2)), .int (Int32.ofInt (-2)), .int 0, .int 0]
def zOfC (_ : Nat) : List zCE := []
theorem con_X2 {d : Nat} : Con (d + 1) mX2_init 2 [.int 0, .int 0, .int 0, .int 0] zOfF zOfC := by
  intro w b K hb hw hx hK
  obtain ⟨wn, wf⟩ := w
  dsimp only at hb hw hx hK
  subst hb
  refine MOk.body pl2 rfl (by simp [Value.category]) (Nat.le_of_ble_eq_true rfl) ?_
  refine Go.hz (fun hz => ?_)
  have hz : b + 1 + 0 ≤ zB := hz
  have hB := Bld.start (w := (b + 1, wf)) (Nat.lt_succ_self b) hw hx
  have hlv : ∀ q : Nat, some (Value.ref q) ∈ ([some (.ref b)] : List (Option Value)) → q < b + 1 := fun q hq => by
    have : q = b := by simpa using hq
    omega
  refine Go.aload_n (x := b) dX2_init_0 rfl ?_
  refine Go.objI dX2_init_1 (zr_4 _ (List.mem_of_getElem? (i := 20) rfl)) (by simp) ?_
  show Go mX2_init (d + 1) (b + 1) 4 [some (.ref b)] [] (b + 1, wf) 0 0 K
  refine Go.aload_n dX2_init_4 rfl (Go.pB dX2_init_5 (by decide) ?_)
  refine Go.putf dX2_init_7 f_2_9 hB.lt hB.2.2.2.1 (by decide) ⟨rfl, rfl⟩ (Or.inl rfl) ?_
  replace hB := hB.set (k := 0) (v := .int (Int32.ofInt (-2))) (fun q e => by cases e)
  refine Go.aload_n dX2_init_10 rfl (Go.pB dX2_init_11 (by decide) ?_)
  refine Go.putf dX2_init_13 f_2_15 hB.lt hB.2.2.2.1 (by decide) ⟨rfl, rfl⟩ (Or.inl rfl) ?_
  replace hB := hB.set (k := 1) (v := .int (Int32.ofInt (-2))) (fun q e => by cases e)
  exact Go.vret dX2_init_16 rfl (hK _ hB) ⟨rfl, rfl⟩
def zPnF (b : Nat) : List Value := [.int 0, .ref (b + 1), .ref (b + 2), .ref (b + 3), .ref (b + 4), .ref (b + 5), .ref (b + 6), .int 0, .ref (b + 7), .ref (b + 8), .ref (b + 9), .ref (b + 10), .ref (b + 17)]
def zPnC (b : Nat) : List zCE := [.inl (0, 24, .inl (fun _ => 0)), .inl (0, 24, .inl (fun _ => 0)), .inl (0, 24, .inl (fun _ => 0)), .inl (0, 24, .inl (fun _ => 0)), .inl (0, 24, .inl (fun _ => 0)), .inl (0, 24, .inl (fun _ => 0)), .inl (0, 6, .inl (fun _ => 0)), .inl (0, 6, .inl (fun _ => 0)), .inl (0, 6, .inl (fun _ => 0)), .inl (3, 6, .inr (.inr (.inr (.inr (fun i => if i < 6 then some (b + 11 + i) else none))))), .inl (0, 24, .inl (fun _ => 0)), .inl (0, 24, .inl (fun _ => 0)), .inl (0, 24, .inl (fun _ => 0)), .inl (0, 24, .inl (fun _ => 0)), .inl (0, 24, .inl (fun _ => 0)), .inl (0, 24, .inl (fun _ => 0)), .inl (0, 8, .inl zRu8)]
theorem con_X3 {d : Nat} : Con (d + 1) mX3_init 3 [.int 0, .null, .null, .null, .null, .null, .null, .int 0, .null, .null, .null, .null, .null] zPnF zPnC := by
  intro w b K hb hw hx hK
  obtain ⟨wn, wf⟩ := w
  dsimp only at hb hw hx hK
  subst hb
  refine MOk.body pl3 rfl (by simp [Value.category]) (Nat.le_of_ble_eq_true rfl) ?_
  refine Go.hz (fun hz => ?_)
  have hz : b + 1 + 17 ≤ zB := hz
  have hB := Bld.start (w := (b + 1, wf)) (Nat.lt_succ_self b) hw hx
  have hlv : ∀ q : Nat, some (Value.ref q) ∈ ([some (.ref b)] : List (Option Value)) → q < b + 1 := fun q hq => by
    have : q = b := by simpa using hq
    omega
  refine Go.aload_n (x := b) dX3_init_0 rfl ?_
  refine Go.objI dX3_init_1 (zr_3 _ (List.mem_of_getElem? (i := 2) rfl)) (by simp) ?_
  show Go mX3_init (d + 1) (b + 1) 4 [some (.ref b)] [] (b + 1, wf) 17 320 K
  refine Go.mkf (W0 := wf) (n0 := b + 1) (p := b) (ci := 3) (idx := 9) (k := 1) (t := 0) (N := 24) hB (by show b + 1 + 0 < zB; omega) rfl hlv dX3_init_4 (Go.pB dX3_init_5 (by decide)) dX3_init_7 dX3_init_9 (by decide) rfl (zr_3 _ (List.mem_of_getElem? (i := 3) rfl)) rfl (by decide) rfl (by decide) f_3_9 (Nat.le_of_ble_eq_true rfl) rfl (Or.inr ⟨rfl, rfl⟩) (by decide) (by decide) (fun w' hB => ?_)
  replace hB : Bld w' wf (b + 1) b 3 [.int 0, .ref (b + 1), .null, .null, .null, .null, .null, .int 0, .null, .null, .null, .null, .null] [.inl (0, 24, .inl (fun _ => 0))] := hB
  show Go mX3_init (d + 1) (b + 1) 12 [some (.ref b)] [] w' 16 296 K
  refine Go.mkf (W0 := wf) (n0 := b + 1) (p := b) (ci := 3) (idx := 15) (k := 2) (t := 0) (N := 24) hB (by show b + 1 + 1 < zB; omega) rfl hlv dX3_init_12 (Go.pB dX3_init_13 (by decide)) dX3_init_15 dX3_init_17 (by decide) rfl (zr_3 _ (List.mem_of_getElem? (i := 3) rfl)) rfl (by decide) rfl (by decide) f_3_15 (Nat.le_of_ble_eq_true rfl) rfl (Or.inr ⟨rfl, rfl⟩) (by decide) (by decide) (fun w' hB => ?_)
  replace hB : Bld w' wf (b + 1) b 3 [.int 0, .ref (b + 1), .ref (b + 2), .null, .null, .null, .null, .int 0, .null, .null, .null, .null, .null] [.inl (0, 24, .inl (fun _ => 0)), .inl (0, 24, .inl (fun _ => 0))] := hB
  show Go mX3_init (d + 1) (b + 1) 20 [some (.ref b)] [] w' 15 272 K
  refine Go.mkf (W0 := wf) (n0 := b + 1) (p := b) (ci := 3) (idx := 18) (k := 3) (t := 0) (N := 24) hB (by show b + 1 + 2 < zB; omega) rfl hlv dX3_init_20 (Go.pB dX3_init_21 (by decide)) dX3_init_23 dX3_init_25 (by decide) rfl (zr_3 _ (List.mem_of_getElem? (i := 3) rfl)) rfl (by decide) rfl (by decide) f_3_18 (Nat.le_of_ble_eq_true rfl) rfl (Or.inr ⟨rfl, rfl⟩) (by decide) (by decide) (fun w' hB => ?_)
  replace hB : Bld w' wf (b + 1) b 3 [.int 0, .ref (b + 1), .ref (b + 2), .ref (b + 3), .null, .null, .null, .int 0, .null, .null, .null, .null, .null] [.inl (0, 24, .inl (fun _ => 0)), .inl (0, 24, .inl (fun _ => 0)), .inl (0, 24, .inl (fun _ => 0))] := hB
  show Go mX3_init (d + 1) (b + 1) 28 [some (.ref b)] [] w' 14 248 K
  refine Go.mkf (W0 := wf) (n0 := b + 1) (p := b) (ci := 3) (idx := 21) (k := 4) (t := 0) (N := 24) hB (by show b + 1 + 3 < zB; omega) rfl hlv dX3_init_28 (Go.pB dX3_init_29 (by decide)) dX3_init_31 dX3_init_33 (by decide) rfl (zr_3 _ (List.mem_of_getElem? (i := 3) rfl)) rfl (by decide) rfl (by decide) f_3_21 (Nat.le_of_ble_eq_true rfl) rfl (Or.inr ⟨rfl, rfl⟩) (by decide) (by decide) (fun w' hB => ?_)
  replace hB : Bld w' wf (b + 1) b 3 [.int 0, .ref (b + 1), .ref (b + 2), .ref (b + 3), .ref (b + 4), .null, .null, .int 0, .null, .null, .null, .null, .null] [.inl (0, 24, .inl (fun _ => 0)), .inl (0, 24, .inl (fun _ => 0)), .inl (0, 24, .inl (fun _ => 0)), .inl (0, 24, .inl (fun _ => 0))] := hB
  show Go mX3_init (d + 1) (b + 1) 36 [some (.ref b)] [] w' 13 224 K
  refine Go.mkf (W0 := wf) (n0 := b + 1) (p := b) (ci := 3) (idx := 24) (k := 5) (t := 0) (N := 24) hB (by show b + 1 + 4 < zB; omega) rfl hlv dX3_init_36 (Go.pB dX3_init_37 (by decide)) dX3_init_39 dX3_init_41 (by decide) rfl (zr_3 _ (List.mem_of_getElem? (i := 3) rfl)) rfl (by decide) rfl (by decide) f_3_24 (Nat.le_of_ble_eq_true rfl) rfl (Or.inr ⟨rfl, rfl⟩) (by decide) (by decide) (fun w' hB => ?_)
  replace hB : Bld w' wf (b + 1) b 3 [.int 0, .ref (b + 1), .ref (b + 2), .ref (b + 3), .ref (b + 4), .ref (b + 5), .null, .int 0, .null, .null, .null, .null, .null] [.inl (0, 24, .inl (fun _ => 0)), .inl (0, 24, .inl (fun _ => 0)), .inl (0, 24, .inl (fun _ => 0)), .inl (0, 24, .inl (fun _ => 0)), .inl (0, 24, .inl (fun _ => 0))] := hB
  show Go mX3_init (d + 1) (b + 1) 44 [some (.ref b)] [] w' 12 200 K
  refine Go.mkf (W0 := wf) (n0 := b + 1) (p := b) (ci := 3) (idx := 27) (k := 6) (t := 0) (N := 24) hB (by show b + 1 + 5 < zB; omega) rfl hlv dX3_init_44 (Go.pB dX3_init_45 (by decide)) dX3_init_47 dX3_init_49 (by decide) rfl (zr_3 _ (List.mem_of_getElem? (i := 3) rfl)) rfl (by decide) rfl (by decide) f_3_27 (Nat.le_of_ble_eq_true rfl) rfl (Or.inr ⟨rfl, rfl⟩) (by decide) (by decide) (fun w' hB => ?_)
  replace hB : Bld w' wf (b + 1) b 3 [.int 0, .ref (b + 1), .ref (b + 2), .ref (b + 3), .ref (b + 4), .ref (b + 5), .ref (b + 6), .int 0, .null, .null, .null, .null, .null] [.inl (0, 24, .inl (fun _ => 0)), .inl (0, 24, .inl (fun _ => 0)), .inl (0, 24, .inl (fun _ => 0)), .inl (0, 24, .inl (fun _ => 0)), .inl (0, 24, .inl (fun _ => 0)), .inl (0, 24, .inl (fun _ => 0))] := hB
  show Go mX3_init (d + 1) (b + 1) 52 [some (.ref b)] [] w' 11 176 K
  refine Go.mkf (W0 := wf) (n0 := b + 1) (p := b) (ci := 3) (idx := 30) (k := 8) (t := 0) (N := 6) hB (by show b + 1 + 6 < zB; omega) rfl hlv dX3_init_52 (Go.pB dX3_init_53 (by decide)) dX3_init_55 dX3_init_57 (by decide) rfl (zr_3 _ (List.mem_of_getElem? (i := 3) rfl)) rfl (by decide) rfl (by decide) f_3_30 (Nat.le_of_ble_eq_true rfl) rfl (Or.inr ⟨rfl, rfl⟩) (by decide) (by decide) (fun w' hB => ?_)
  replace hB : Bld w' wf (b + 1) b 3 [.int 0, .ref (b + 1), .ref (b + 2), .ref (b + 3), .ref (b + 4), .ref (b + 5), .ref (b + 6), .int 0, .ref (b + 7), .null, .null, .null, .null] [.inl (0, 24, .inl (fun _ => 0)), .inl (0, 24, .inl (fun _ => 0)), .inl (0, 24, .inl (fun _ => 0)), .inl (0, 24, .inl (fun _ => 0)), .inl (0, 24, .inl (fun _ => 0)), .inl (0, 24, .inl (fun _ => 0)), .inl (0, 6, .inl (fun _ => 0))] := hB
  show Go mX3_init (d + 1) (b + 1) 60 [some (.ref b)] [] w' 10 170 K
  refine Go.mkf (W0 := wf) (n0 := b + 1) (p := b) (ci := 3) (idx := 33) (k := 9) (t := 0) (N := 6) hB (by show b + 1 + 7 < zB; omega) rfl hlv dX3_init_60 (Go.pB dX3_init_61 (by decide)) dX3_init_63 dX3_init_65 (by decide) rfl (zr_3 _ (List.mem_of_getElem? (i := 3) rfl)) rfl (by decide) rfl (by decide) f_3_33 (Nat.le_of_ble_eq_true rfl) rfl (Or.inr ⟨rfl, rfl⟩) (by decide) (by decide) (fun w' hB => ?_)
  replace hB : Bld w' wf (b + 1) b 3 [.int 0, .ref (b + 1), .ref (b + 2), .ref (b + 3), .ref (b + 4), .ref (b + 5), .ref (b + 6), .int 0, .ref (b + 7), .ref (b + 8), .null, .null, .null] [.inl (0, 24, .inl (fun _ => 0)), .inl (0, 24, .inl (fun _ => 0)), .inl (0, 24, .inl (fun _ => 0)), .inl (0, 24, .inl (fun _ => 0)), .inl (0, 24, .inl (fun _ => 0)), .inl (0, 24, .inl (fun _ => 0)), .inl (0, 6, .inl (fun _ => 0)), .inl (0, 6, .inl (fun _ => 0))] := hB
  show Go mX3_init (d + 1) (b + 1) 68 [some (.ref b)] [] w' 9 164 K
  refine Go.mkf (W0 := wf) (n0 := b + 1) (p := b) (ci := 3) (idx := 36) (k := 10) (t := 0) (N := 6) hB (by show b + 1 + 8 < zB; omega) rfl hlv dX3_init_68 (Go.pB dX3_init_69 (by decide)) dX3_init_71 dX3_init_73 (by decide) rfl (zr_3 _ (List.mem_of_getElem? (i := 3) rfl)) rfl (by decide) rfl (by decide) f_3_36 (Nat.le_of_ble_eq_true rfl) rfl (Or.inr ⟨rfl, rfl⟩) (by decide) (by decide) (fun w' hB => ?_)
  replace hB : Bld w' wf (b + 1) b 3 [.int 0, .ref (b + 1), .ref (b + 2), .ref (b + 3), .ref (b + 4), .ref (b + 5), .ref (b + 6), .int 0, .ref (b + 7), .ref (b + 8), .ref (b + 9), .null, .null] [.inl (0, 24, .inl (fun _ => 0)), .inl (0, 24, .inl (fun _ => 0)), .inl (0, 24, .inl (fun _ => 0)), .inl (0, 24, .inl (fun _ => 0)), .inl (0, 24, .inl (fun _ => 0)), .inl (0, 24, .inl (fun _ => 0)), .inl (0, 6, .inl (fun _ => 0)), .inl (0, 6, .inl (fun _ => 0)), .inl (0, 6, .inl (fun _ => 0))] := hB
  show Go mX3_init (d + 1) (b + 1) 76 [some (.ref b)] [] w' 8 158 K
  refine Go.aload_n dX3_init_76 rfl (Go.pB dX3_init_77 (by decide) (Go.pB dX3_init_79 (by decide) ?_))
  refine Go.mna (N := 6) (K := 24) dX3_init_81 rfl (by decide) (by decide) rfl rfl (by decide) (by decide) (by decide) (by decide) (hB.frW hlv (fun q hq => ?_)) ?_
  · have : q = b := by simpa using hq
    exact Or.inl (by rw [this]; exact hB.lt)
  have e1 : w'.1 = b + 1 + 9 := hB.1
  replace hB := hB.mul (N := 6) (K := 24)
  refine Go.putf dX3_init_85 f_3_41 hB.lt hB.2.2.2.1 (Nat.le_of_ble_eq_true rfl) rfl (Or.inr ⟨rfl, rfl⟩) ?_
  rw [e1]
  replace hB := hB.set (k := 11) (v := .ref (b + 1 + 9)) (fun q e => by cases e; show b + 1 + 9 < w'.1 + 1 + 6; omega)
  generalize zup (zmul w' 6 24) b (.inr (3, _)) = w' at hB ⊢
  replace hB : Bld w' wf (b + 1) b 3 [.int 0, .ref (b + 1), .ref (b + 2), .ref (b + 3), .ref (b + 4), .ref (b + 5), .ref (b + 6), .int 0, .ref (b + 7), .ref (b + 8), .ref (b + 9), .ref (b + 10), .null] [.inl (0, 24, .inl (fun _ => 0)), .inl (0, 24, .inl (fun _ => 0)), .inl (0, 24, .inl (fun _ => 0)), .inl (0, 24, .inl (fun _ => 0)), .inl (0, 24, .inl (fun _ => 0)), .inl (0, 24, .inl (fun _ => 0)), .inl (0, 6, .inl (fun _ => 0)), .inl (0, 6, .inl (fun _ => 0)), .inl (0, 6, .inl (fun _ => 0)), .inl (3, 6, .inr (.inr (.inr (.inr (fun i => if i < 6 then some (b + 11 + i) else none))))), .inl (0, 24, .inl (fun _ => 0)), .inl (0, 24, .inl (fun _ => 0)), .inl (0, 24, .inl (fun _ => 0)), .inl (0, 24, .inl (fun _ => 0)), .inl (0, 24, .inl (fun _ => 0)), .inl (0, 24, .inl (fun _ => 0))] := hB
  show Go mX3_init (d + 1) (b + 1) 88 [some (.ref b)] [] w' 1 8 K
  refine Go.mkf (W0 := wf) (n0 := b + 1) (p := b) (ci := 3) (idx := 44) (k := 12) (t := 0) (N := 8) hB (by show b + 1 + 16 < zB; omega) rfl hlv dX3_init_88 (Go.pB dX3_init_89 (by decide)) dX3_init_91 dX3_init_93 (by decide) rfl (zr_3 _ (List.mem_of_getElem? (i := 3) rfl)) rfl (by decide) rfl (by decide) f_3_44 (Nat.le_of_ble_eq_true rfl) rfl (Or.inr ⟨rfl, rfl⟩) (by decide) (by decide) (fun w' hB => ?_)
  replace hB : Bld w' wf (b + 1) b 3 [.int 0, .ref (b + 1), .ref (b + 2), .ref (b + 3), .ref (b + 4), .ref (b + 5), .ref (b + 6), .int 0, .ref (b + 7), .ref (b + 8), .ref (b + 9), .ref (b + 10), .ref (b + 17)] [.inl (0, 24, .inl (fun _ => 0)), .inl (0, 24, .inl (fun _ => 0)), .inl (0, 24, .inl (fun _ => 0)), .inl (0, 24, .inl (fun _ => 0)), .inl (0, 24, .inl (fun _ => 0)), .inl (0, 24, .inl (fun _ => 0)), .inl (0, 6, .inl (fun _ => 0)), .inl (0, 6, .inl (fun _ => 0)), .inl (0, 6, .inl (fun _ => 0)), .inl (3, 6, .inr (.inr (.inr (.inr (fun i => if i < 6 then some (b + 11 + i) else none))))), .inl (0, 24, .inl (fun _ => 0)), .inl (0, 24, .inl (fun _ => 0)), .inl (0, 24, .inl (fun _ => 0)), .inl (0, 24, .inl (fun _ => 0)), .inl (0, 24, .inl (fun _ => 0)), .inl (0, 24, .inl (fun _ => 0)), .inl (0, 8, .inl (fun _ => 0))] := hB
  show Go mX3_init (d + 1) (b + 1) 96 [some (.ref b)] [] w' 0 0 K
  refine Go.gets (j := 2) dX3_init_96 gs_3_47 (Go.pI dX3_init_99 (Go.aload_n dX3_init_100 rfl ?_))
  refine Go.getf (ci := 3) (k := 12) (v := .ref (b + 17)) dX3_init_101 f_3_44 hB.lt hB.2.2.2.1 rfl (Go.pI dX3_init_104 (Go.pB dX3_init_105 (by decide) ?_))
  refine Go.copyS (q := b + 1 + 16) (n1 := 8) (g := fun _ => 0) dX3_init_107 (zcpS_3 ▸ trivial) (by decide) (by rw [hB.1]; show b + 1 + 16 < b + 1 + 17; omega) (hB.2.2.2.2.2 16 _ rfl) (by decide) (by decide) (by decide) (by decide) (by decide) (by simp) ?_
  replace hB := hB.upd (j := 16) (x := .inl (0, 8, .inl zRu8)) (Nat.le_of_ble_eq_true rfl) trivial
  exact Go.vret dX3_init_110 rfl (hK _ hB) ⟨rfl, rfl⟩
end ZCS
