/-! the class's row: pure -/
section N5
variable {P : Pl} {L : List Nat} {x : Nat}
theorem dendF_sp : ∀ k e, e ≤ L.length → L.length ≤ e + k → (∀ j, e ≤ j → j < P.dendF L k e → P.beg L j = false) ∧ (P.dendF L k e < L.length → P.beg L (P.dendF L k e) = true) := by
  intro k
  induction k with
  | zero => intro e h1 h2; exact ⟨fun j h3 h4 => by rw [Pl.dendF] at h4; omega, fun h => by rw [Pl.dendF] at h; omega⟩
  | succ k ih =>
    intro e h1 h2
    rw [Pl.dendF]
    split
    · rename_i q
      have := ih (e + 1) (by omega) (by omega)
      refine ⟨fun j h3 h4 => ?_, this.2⟩
      by_cases z : j = e
      · rw [z]; exact q.2
      · exact this.1 j (by omega) h4
    · rename_i q
      refine ⟨fun j h3 h4 => by omega, fun h => ?_⟩
      cases z : P.beg L e with
      | true => rfl
      | false => exact absurd ⟨h, z⟩ q
theorem dend_sp {i : Nat} (hi : i < L.length) : (∀ j, i < j → j < P.dend L i → P.beg L j = false) ∧ (P.dend L i < L.length → P.beg L (P.dend L i) = true) := dendF_sp L.length (i + 1) (by omega) (by omega)
theorem dend_un {i e : Nat} (hi : i < L.length) (h1 : i < e) (h2 : e ≤ L.length) (h3 : ∀ j, i < j → j < e → P.beg L j = false) (h4 : e < L.length → P.beg L e = true) : P.dend L i = e := by
  obtain ⟨r1, r2⟩ := dend_r (P := P) hi
  obtain ⟨s1, s2⟩ := dend_sp (P := P) hi
  rcases Nat.lt_trichotomy (P.dend L i) e with q | q | q
  · have := h3 _ r1 q
    rw [s2 (by omega)] at this
    exact absurd this (by decide)
  · exact q
  · have := s1 _ h1 q
    rw [h4 (by omega)] at this
    exact absurd this (by decide)
theorem rc_apl {i : Nat} (h : i < L.length) : rc (L ++ [x]) i = rc L i := by rw [rc_app, if_pos h]
theorem rc_aph : rc (L ++ [x]) L.length = x := by rw [rc_app, if_neg (by omega), Nat.sub_self]; rfl
theorem rg_apl {i : Nat} (h : i < L.length) : rg (L ++ [x]) i = rg L i := by unfold rg; rw [rc_apl h]
theorem rf_apl {i : Nat} (h : i < L.length) : rf (L ++ [x]) i = rf L i := by unfold rf; rw [rc_apl h]
theorem rg_aph : rg (L ++ [x]) L.length = x / 2 := by unfold rg; rw [rc_aph]
theorem rf_aph : rf (L ++ [x]) L.length = decide (x % 2 = 1) := by unfold rf; rw [rc_aph]
theorem gap_ap {i : Nat} (h : i < L.length) : P.gap (L ++ [x]) i = P.gap L i := by
  unfold Pl.gap
  rw [rg_apl h, rg_apl (by omega)]
theorem beg_ap {i : Nat} (h : i < L.length) : P.beg (L ++ [x]) i = P.beg L i := by
  unfold Pl.beg
  rw [gap_ap h]
theorem dof_ap : ∀ k, k ≤ L.length → P.dof (L ++ [x]) k = P.dof L k := by
  intro k
  induction k with
  | zero => intro _; rfl
  | succ k ih => intro h; rw [Pl.dof, Pl.dof, ih (by omega), beg_ap (by omega)]
theorem fls_ap {a : Nat} : ∀ k, a + k ≤ L.length → P.fls (L ++ [x]) a k = P.fls L a k := by
  intro k
  induction k with
  | zero => intro _; rfl
  | succ k ih => intro h; rw [Pl.fls, Pl.fls, ih (by omega), rf_apl (by omega), rg_apl (by omega)]
theorem len_ap : (L ++ [x]).length = L.length + 1 := by simp
theorem dof_mono : ∀ (n k : Nat), P.dof L k ≤ P.dof L (k + n) := by
  intro n
  induction n with
  | zero => intro k; exact Int.le_refl _
  | succ n ih =>
    intro k
    have := ih k
    rw [show k + (n + 1) = (k + n) + 1 by omega, Pl.dof]
    split <;> omega
theorem dof_le {j k : Nat} (h : j ≤ k) : P.dof L j ≤ P.dof L k := by
  have := dof_mono (P := P) (L := L) (k - j) j
  rw [show j + (k - j) = k by omega] at this
  exact this
theorem beg_0 : P.beg L 0 = true := by unfold Pl.beg; simp
theorem dof_s {k : Nat} : P.dof L (k + 1) = P.dof L k + (if P.beg L k then 1 else 0) := rfl
theorem dof_pos {k : Nat} : 0 ≤ P.dof L (k + 1) := by
  have h1 := dof_le (P := P) (L := L) (show 1 ≤ k + 1 by omega)
  rw [show P.dof L 1 = P.dof L 0 + 1 by rw [dof_s (k := 0), beg_0]; rfl, show P.dof L 0 = -1 from rfl] at h1
  omega
theorem dof_st {i j : Nat} (h : ∀ k, i < k → k < j → P.beg L k = false) : ∀ n, i + 1 + n ≤ j → P.dof L (i + 1 + n) = P.dof L (i + 1) := by
  intro n
  induction n with
  | zero => intro _; rfl
  | succ n ih =>
    intro hn
    rw [show i + 1 + (n + 1) = (i + 1 + n) + 1 by omega, Pl.dof, ih (by omega), h _ (by omega) (by omega)]
    simp
/-- the place where the duty of a place begins -/
theorem bg_ex : ∀ i : Nat, ∃ j, j ≤ i ∧ P.beg L j = true ∧ P.dof L (j + 1) = P.dof L (i + 1) := by
  intro i
  induction i with
  | zero => exact ⟨0, Nat.le_refl _, beg_0, rfl⟩
  | succ i ih =>
    by_cases q : P.beg L (i + 1) = true
    · exact ⟨i + 1, Nat.le_refl _, q, rfl⟩
    · obtain ⟨j, h1, h2, h3⟩ := ih
      refine ⟨j, by omega, h2, ?_⟩
      rw [h3, dof_s (k := i + 1)]
      rw [if_neg q]
      omega
theorem dof_inj {i j : Nat} (hi : P.beg L i = true) (hj : P.beg L j = true) (h : P.dof L (i + 1) = P.dof L (j + 1)) : i = j := by
  have st : ∀ {a b : Nat}, P.beg L b = true → a < b → P.dof L (a + 1) < P.dof L (b + 1) := by
    intro a b hb hab
    have := dof_le (P := P) (L := L) (show a + 1 ≤ b by omega)
    rw [dof_s (k := b), if_pos hb]
    omega
  rcases Nat.lt_trichotomy i j with q | q | q
  · have := st hj q; omega
  · exact q
  · have := st hi q; omega
theorem dend_dof {i : Nat} (hi : i < L.length) : P.dend L i = L.length ↔ P.dof L (i + 1) = P.dof L L.length := by
  obtain ⟨r1, r2⟩ := dend_r (P := P) hi
  obtain ⟨s1, s2⟩ := dend_sp (P := P) hi
  have e1 := dof_st (P := P) s1 (P.dend L i - (i + 1)) (by omega)
  rw [show i + 1 + (P.dend L i - (i + 1)) = P.dend L i by omega] at e1
  constructor
  · intro h; rw [← e1, h]
  · intro h
    by_cases q : P.dend L i < L.length
    · have h2 := dof_le (P := P) (L := L) (show P.dend L i + 1 ≤ L.length by omega)
      rw [Pl.dof, s2 q, if_pos rfl] at h2
      omega
    · omega
theorem dend_ap {i : Nat} (hi : i < L.length) : P.dend (L ++ [x]) i = if P.dend L i = L.length ∧ P.beg (L ++ [x]) L.length = false then L.length + 1 else P.dend L i := by
  obtain ⟨r1, r2⟩ := dend_r (P := P) hi
  obtain ⟨s1, s2⟩ := dend_sp (P := P) hi
  have hl := len_ap (L := L) (x := x)
  split
  · rename_i q
    refine dend_un (by omega) (by omega) (by omega) (fun j h1 h2 => ?_) (fun h => by omega)
    by_cases e : j = L.length
    · rw [e]; exact q.2
    · rw [beg_ap (by omega)]; exact s1 j h1 (by omega)
  · rename_i q
    refine dend_un (by omega) (by omega) (by omega) (fun j h1 h2 => by rw [beg_ap (by omega)]; exact s1 j h1 h2) (fun h => ?_)
    by_cases e : P.dend L i = L.length
    · rw [e]
      cases z : P.beg (L ++ [x]) L.length with
      | true => rfl
      | false => exact absurd ⟨e, z⟩ q
    · rw [beg_ap (by omega)]; exact s2 (by omega)
theorem dend_aph : P.dend (L ++ [x]) L.length = L.length + 1 := by
  have hl := len_ap (L := L) (x := x)
  exact dend_un (by omega) (by omega) (by omega) (fun j h1 h2 => by omega) (fun h => by omega)
theorem fls_aph {a k : Nat} (h : a + k = L.length) : P.fls (L ++ [x]) a (k + 1) = P.fls L a k + (if x % 2 = 1 then P.len (x / 2) else 0) := by
  rw [Pl.fls, fls_ap k (by omega), h, rf_aph, rg_aph]
  simp
end N5
/-- the class's row -/
def CR (F A : Nat → Nat → Int32) (P : Pl) (L : List Nat) (b : Int) : Prop :=
  (F 201 1 = Int32.ofInt b ∧ F 201 2 = Int32.ofInt (L.length : Int) ∧ F 201 7 = Int32.ofInt (P.dof L L.length + 1)) ∧
  (∀ i, i < L.length → A 202 i = Int32.ofInt (rg L i : Int) ∧ A 203 i = Int32.ofInt (zb (rf L i)) ∧ A 204 i = Int32.ofInt (if i = 0 then 0 else P.gap L i) ∧ A 205 i = Int32.ofInt (P.dof L (i + 1))) ∧
  (∀ i, i < L.length → P.beg L i = true → A 206 (P.dof L (i + 1)).toNat = Int32.ofInt (i : Int) ∧ A 207 (P.dof L (i + 1)).toNat = Int32.ofInt ((P.dend L i : Int) - 1) ∧ A 208 (P.dof L (i + 1)).toNat = Int32.ofInt (P.fls L i (P.dend L i - i)))
/-- nothing but the row has changed -/
def crE (F A F' A' : Nat → Nat → Int32) : Prop := (∀ q, q ≠ 201 → F' q = F q) ∧ ∀ q, q < 202 ∨ 210 < q → A' q = A q
theorem crE.rf {F A : Nat → Nat → Int32} : crE F A F A := ⟨fun _ _ => rfl, fun _ _ => rfl⟩
theorem crE.tr {F A F' A' F2 A2 : Nat → Nat → Int32} (h : crE F A F' A') (h2 : crE F' A' F2 A2) : crE F A F2 A2 := ⟨fun q hq => (h2.1 q hq).trans (h.1 q hq), fun q hq => (h2.2 q hq).trans (h.2 q hq)⟩
theorem crE.cp {F A F' A' : Nat → Nat → Int32} {p : Nat} {P : Pl} (h : crE F A F' A') (hp : isPl p) (hS : CP F A p P) : CP F' A' p P := by
  have := hp.lt
  exact hS.cg (by rw [h.1 p (by omega)]) (by rw [h.1 p (by omega)]) (fun j hj => h.2 _ (by omega))
section N6
variable {P : Pl} {L : List Nat} {x : Nat} {b : Int} {F A F' A' : Nat → Nat → Int32}
theorem CR.app (hR : CR F A P L b) (h1 : F' 201 1 = F 201 1) (h2 : F' 201 2 = Int32.ofInt ((L.length : Int) + 1)) (h7 : F' 201 7 = Int32.ofInt (P.dof (L ++ [x]) (L.length + 1) + 1))
    (a2 : ∀ j, A' 202 j = if j = L.length then Int32.ofInt ((x / 2 : Nat) : Int) else A 202 j) (a3 : ∀ j, A' 203 j = if j = L.length then Int32.ofInt (zb (decide (x % 2 = 1))) else A 203 j)
    (a4 : ∀ j, A' 204 j = if j = L.length then Int32.ofInt (if L.length = 0 then 0 else P.gap (L ++ [x]) L.length) else A 204 j) (a5 : ∀ j, A' 205 j = if j = L.length then Int32.ofInt (P.dof (L ++ [x]) (L.length + 1)) else A 205 j)
    (a6 : ∀ j, A' 206 j = if j = (P.dof (L ++ [x]) (L.length + 1)).toNat ∧ P.beg (L ++ [x]) L.length = true then Int32.ofInt (L.length : Int) else A 206 j)
    (a7 : ∀ j, A' 207 j = if j = (P.dof (L ++ [x]) (L.length + 1)).toNat then Int32.ofInt (L.length : Int) else A 207 j)
    (a8 : ∀ j, A' 208 j = if j = (P.dof (L ++ [x]) (L.length + 1)).toNat then (if P.beg (L ++ [x]) L.length = true then Int32.ofInt 0 else A 208 j) + Int32.ofInt (if x % 2 = 1 then P.len (x / 2) else 0) else A 208 j) : CR F' A' P (L ++ [x]) b := by
  have hl := len_ap (L := L) (x := x)
  refine ⟨⟨h1.trans hR.1.1, by rw [h2, hl]; exact zr_of (by omega), by rw [h7, hl]⟩, fun i hi => ?_, fun i hi hb => ?_⟩
  · rw [hl] at hi
    rw [a2, a3, a4, a5]
    by_cases e : i = L.length
    · subst e
      rw [if_pos rfl, if_pos rfl, if_pos rfl, if_pos rfl, rg_aph, rf_aph]
      exact ⟨rfl, rfl, rfl, rfl⟩
    · rw [if_neg e, if_neg e, if_neg e, if_neg e, rg_apl (by omega), rf_apl (by omega), gap_ap (by omega), dof_ap _ (by omega)]
      exact hR.2.1 i (by omega)
  · rw [hl] at hi
    by_cases e : i = L.length
    · subst e
      rw [a6, a7, a8, if_pos ⟨rfl, hb⟩, if_pos rfl, if_pos rfl, if_pos hb, dend_aph, show L.length + 1 - L.length = 0 + 1 by omega, fls_aph (by omega), zi_add]
      refine ⟨rfl, zr_of (by omega), rfl⟩
    · have hi2 : i < L.length := by omega
      rw [beg_ap hi2] at hb
      obtain ⟨q6, q7, q8⟩ := hR.2.2 i hi2 hb
      have hp := dof_pos (P := P) (L := L) (k := i)
      have hle := dof_le (P := P) (L := L) (show i + 1 ≤ L.length by omega)
      have hD : P.dof (L ++ [x]) (L.length + 1) = P.dof L L.length + (if P.beg (L ++ [x]) L.length then 1 else 0) := by rw [Pl.dof, dof_ap _ (Nat.le_refl _)]
      have hdr := dend_r (P := P) hi2
      rw [dof_ap _ (by omega), dend_ap hi2]
      by_cases hB : P.beg (L ++ [x]) L.length = true
      · rw [if_pos hB] at hD
        have n1 : ¬ (P.dof L (i + 1)).toNat = (P.dof (L ++ [x]) (L.length + 1)).toNat := by omega
        have n2 : ¬ (P.dend L i = L.length ∧ P.beg (L ++ [x]) L.length = false) := by rw [hB]; simp
        rw [a6, a7, a8, if_neg (fun z => n1 z.1), if_neg n1, if_neg n1, if_neg n2, fls_ap _ (by omega)]
        exact ⟨q6, q7, q8⟩
      · have hB2 : P.beg (L ++ [x]) L.length = false := by simpa using hB
        rw [if_neg hB] at hD
        rw [a6, if_neg (by rw [hB2]; simp)]
        by_cases hd : P.dend L i = L.length
        · have := (dend_dof hi2).mp hd
          have n1 : (P.dof L (i + 1)).toNat = (P.dof (L ++ [x]) (L.length + 1)).toNat := by omega
          rw [a7, a8, if_pos n1, if_pos n1, if_neg hB, if_pos ⟨hd, hB2⟩, q8, hd, show L.length + 1 - i = (L.length - i) + 1 by omega, fls_aph (by omega), zi_add]
          exact ⟨q6, zr_of (by omega), rfl⟩
        · have : P.dof L (i + 1) ≠ P.dof L L.length := fun z => hd ((dend_dof hi2).mpr z)
          have n1 : ¬ (P.dof L (i + 1)).toNat = (P.dof (L ++ [x]) (L.length + 1)).toNat := by omega
          rw [a7, a8, if_neg n1, if_neg n1, if_neg (fun z => hd z.1), fls_ap _ (by omega)]
          exact ⟨q6, q7, q8⟩
theorem CR.rem (hR : CR F A P (L ++ [x]) b) (h1 : F' 201 1 = F 201 1) (h2 : F' 201 2 = Int32.ofInt (L.length : Int)) (h7 : F' 201 7 = Int32.ofInt (P.dof L L.length + 1))
    (a0 : ∀ q, q < 207 → A' q = A q)
    (a7 : ∀ j, A' 207 j = if j = (P.dof (L ++ [x]) (L.length + 1)).toNat ∧ P.beg (L ++ [x]) L.length = false then Int32.ofInt ((L.length : Int) - 1) else A 207 j)
    (a8 : ∀ j, A' 208 j = if j = (P.dof (L ++ [x]) (L.length + 1)).toNat ∧ P.beg (L ++ [x]) L.length = false then A 208 j - Int32.ofInt (if x % 2 = 1 then P.len (x / 2) else 0) else A 208 j) : CR F' A' P L b := by
  have hl := len_ap (L := L) (x := x)
  refine ⟨⟨h1.trans hR.1.1, h2, h7⟩, fun i hi => ?_, fun i hi hb => ?_⟩
  · have := hR.2.1 i (by omega)
    rw [rg_apl hi, rf_apl hi, gap_ap hi, dof_ap _ (by omega)] at this
    rw [a0 202 (by omega), a0 203 (by omega), a0 204 (by omega), a0 205 (by omega)]
    exact this
  · obtain ⟨q6, q7, q8⟩ := hR.2.2 i (by omega) (by rw [beg_ap hi]; exact hb)
    have hp := dof_pos (P := P) (L := L) (k := i)
    have hle := dof_le (P := P) (L := L) (show i + 1 ≤ L.length by omega)
    have hD : P.dof (L ++ [x]) (L.length + 1) = P.dof L L.length + (if P.beg (L ++ [x]) L.length then 1 else 0) := by rw [Pl.dof, dof_ap _ (Nat.le_refl _)]
    have hdr := dend_r (P := P) hi
    rw [dof_ap _ (by omega), dend_ap hi] at q7 q8
    rw [dof_ap _ (by omega)] at q6
    rw [a0 206 (by omega), a7, a8]
    by_cases hB : P.beg (L ++ [x]) L.length = true
    · rw [if_neg (by rw [hB]; simp)] at q7 q8
      rw [if_neg (by rw [hB]; simp), if_neg (by rw [hB]; simp)]
      rw [fls_ap _ (by omega)] at q8
      exact ⟨q6, q7, q8⟩
    · have hB2 : P.beg (L ++ [x]) L.length = false := by simpa using hB
      rw [if_neg hB] at hD
      by_cases hd : P.dend L i = L.length
      · have := (dend_dof hi).mp hd
        rw [if_pos ⟨hd, hB2⟩] at q7 q8
        rw [show L.length + 1 - i = (L.length - i) + 1 by omega, fls_aph (by omega)] at q8
        rw [if_pos ⟨by omega, hB2⟩, if_pos ⟨by omega, hB2⟩, q8, hd, zi_sub]
        exact ⟨q6, rfl, zr_of (by omega)⟩
      · have : P.dof L (i + 1) ≠ P.dof L L.length := fun z => hd ((dend_dof hi).mpr z)
        rw [if_neg (by simp [hd])] at q7 q8
        rw [fls_ap _ (by omega)] at q8
        rw [if_neg (by intro z; omega), if_neg (by intro z; omega)]
        exact ⟨q6, q7, q8⟩
end N6
