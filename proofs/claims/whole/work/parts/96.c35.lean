/-! the search: what a leg behind a row does to its violations -/
section N37
variable {P : Pl} {L : List Nat} {b : Int} {l c : Nat}
theorem win_ap {x : Nat} {s t : Int} : ∀ k, k ≤ L.length → P.win (L ++ [x]) s t k = P.win L s t k := by
  intro k
  induction k with
  | zero => intro _; rfl
  | succ k ih => intro h; rw [Pl.win, Pl.win, ih (by omega), rf_apl (by omega), rg_apl (by omega)]
theorem vio_13 {x k i : Nat} (hk : k = 1 ∨ k = 2 ∨ k = 3) (hi : i < L.length) : P.viol (L ++ [x]) b k i = P.viol L b k i := by
  rcases hk with rfl | rfl | rfl
  · show (decide (0 < i) && decide (P.gap (L ++ [x]) i < 0)) = (decide (0 < i) && decide (P.gap L i < 0))
    rw [gap_ap hi]
  · show decide (P.lg (rg (L ++ [x]) i) 0 ≠ (if i = 0 then b else P.lg (rg (L ++ [x]) (i - 1)) 1)) = decide (P.lg (rg L i) 0 ≠ (if i = 0 then b else P.lg (rg L (i - 1)) 1))
    rw [rg_apl hi, rg_apl (by omega)]
  · show (decide (0 < i) && (decide (0 ≤ P.gap (L ++ [x]) i) && decide (P.gap (L ++ [x]) i < P.ru 0))) = (decide (0 < i) && (decide (0 ≤ P.gap L i) && decide (P.gap L i < P.ru 0)))
    rw [gap_ap hi]
theorem vio_46 {x k i : Nat} (hk : k = 4 ∨ k = 5 ∨ k = 6) (hi : i < L.length) (hd : P.dend (L ++ [x]) i = P.dend L i) : P.viol (L ++ [x]) b k i = P.viol L b k i := by
  obtain ⟨r1, r2⟩ := dend_r (P := P) hi
  rcases hk with rfl | rfl | rfl
  · show (P.beg (L ++ [x]) i && decide (P.ru 2 < P.ar (rg (L ++ [x]) (P.dend (L ++ [x]) i - 1)) - P.dp (rg (L ++ [x]) i))) = (P.beg L i && decide (P.ru 2 < P.ar (rg L (P.dend L i - 1)) - P.dp (rg L i)))
    rw [hd, beg_ap hi, rg_apl hi, rg_apl (by omega)]
  · show (P.beg (L ++ [x]) i && decide (P.ru 3 < P.fls (L ++ [x]) i (P.dend (L ++ [x]) i - i))) = (P.beg L i && decide (P.ru 3 < P.fls L i (P.dend L i - i)))
    rw [hd, beg_ap hi, fls_ap _ (by omega)]
  · show (P.beg (L ++ [x]) i && decide (P.ru 4 < (P.dend (L ++ [x]) i : Int) - (i : Int))) = (P.beg L i && decide (P.ru 4 < (P.dend L i : Int) - (i : Int)))
    rw [hd, beg_ap hi]
theorem len_p (hP : P.ok) (hl : l < P.nl) : 0 < P.len l := by
  have := hP.2.2.1 l hl
  have e : P.len l = P.ar l - P.dp l := rfl
  omega
/-- a violation stays when a leg comes behind -/
theorem vio_up {k i : Nat} (hP : P.ok) (hl : l < P.nl) (hg : P.viol (L ++ [2 * l + 1]) b 1 L.length = false) (hk : 1 ≤ k ∧ k ≤ 7) (hi : i < L.length) (h : P.viol L b k i = true) : P.viol (L ++ [2 * l + 1]) b k i = true := by
  obtain ⟨r1, r2⟩ := dend_r (P := P) hi
  have hlen := len_p hP hl
  have hdl := hP.2.2.1 l hl
  by_cases k7 : k = 7
  · subst k7
    have h' : (rf L i && decide (P.ru 5 < P.win L (P.dp (rg L i)) 1440 L.length)) = true := h
    show (rf (L ++ [2 * l + 1]) i && decide (P.ru 5 < P.win (L ++ [2 * l + 1]) (P.dp (rg (L ++ [2 * l + 1]) i)) 1440 (L ++ [2 * l + 1]).length)) = true
    rw [Bool.and_eq_true, decide_eq_true_eq] at h' ⊢
    rw [rf_apl hi, rg_apl hi, len_ap, Pl.win, win_ap _ (Nat.le_refl _)]
    refine ⟨h'.1, ?_⟩
    have := h'.2
    split <;> omega
  by_cases k13 : k = 1 ∨ k = 2 ∨ k = 3
  · rw [vio_13 k13 hi]; exact h
  have k46 : k = 4 ∨ k = 5 ∨ k = 6 := by omega
  have hd := dend_ap (P := P) (x := 2 * l + 1) hi
  by_cases e : P.dend L i = L.length ∧ P.beg (L ++ [2 * l + 1]) L.length = false
  · rw [if_pos e] at hd
    have e1 : rg (L ++ [2 * l + 1]) L.length = l := by rw [rg_aph]; omega
    have hgap : P.ar (rg L (L.length - 1)) ≤ P.dp l := by
      have hg' : (decide (0 < L.length) && decide (P.gap (L ++ [2 * l + 1]) L.length < 0)) = false := hg
      rw [decide_eq_true (show 0 < L.length by omega), Bool.true_and, decide_eq_false_iff_not, gap_aph (by omega), show (2 * l + 1) / 2 = l by omega] at hg'
      omega
    rcases k46 with rfl | rfl | rfl
    · have h' : (P.beg L i && decide (P.ru 2 < P.ar (rg L (P.dend L i - 1)) - P.dp (rg L i))) = true := h
      show (P.beg (L ++ [2 * l + 1]) i && decide (P.ru 2 < P.ar (rg (L ++ [2 * l + 1]) (P.dend (L ++ [2 * l + 1]) i - 1)) - P.dp (rg (L ++ [2 * l + 1]) i))) = true
      rw [hd, Nat.add_sub_cancel, e1, beg_ap hi, rg_apl hi]
      rw [Bool.and_eq_true, decide_eq_true_eq] at h' ⊢
      rw [e.1] at h'
      exact ⟨h'.1, by omega⟩
    · have h' : (P.beg L i && decide (P.ru 3 < P.fls L i (P.dend L i - i))) = true := h
      show (P.beg (L ++ [2 * l + 1]) i && decide (P.ru 3 < P.fls (L ++ [2 * l + 1]) i (P.dend (L ++ [2 * l + 1]) i - i))) = true
      rw [hd, beg_ap hi, show L.length + 1 - i = (L.length - i) + 1 by omega, fls_aph (by omega), if_pos (by omega), show (2 * l + 1) / 2 = l by omega]
      rw [Bool.and_eq_true, decide_eq_true_eq] at h' ⊢
      rw [e.1] at h'
      exact ⟨h'.1, by omega⟩
    · have h' : (P.beg L i && decide (P.ru 4 < (P.dend L i : Int) - (i : Int))) = true := h
      show (P.beg (L ++ [2 * l + 1]) i && decide (P.ru 4 < (P.dend (L ++ [2 * l + 1]) i : Int) - (i : Int))) = true
      rw [hd, beg_ap hi]
      rw [Bool.and_eq_true, decide_eq_true_eq] at h' ⊢
      rw [e.1] at h'
      exact ⟨h'.1, by omega⟩
  · rw [if_neg e] at hd
    rw [vio_46 k46 hi hd]; exact h
theorem vl_up (hP : P.ok) (hl : l < P.nl) (h : P.vl (L ++ [2 * l + 1]) b = []) : P.vl L b = [] := by
  rw [vl_nil] at h ⊢
  intro k h1 h2 i hi
  cases hv : P.viol L b k i with
  | false => rfl
  | true =>
    have := vio_up hP hl (h 1 (by omega) (by omega) L.length (by rw [len_ap]; omega)) ⟨h1, h2⟩ hi hv
    rw [h k h1 h2 i (by rw [len_ap]; omega)] at this
    exact absurd this (by decide)
/-- what is to be looked at behind a row without violations -/
theorem vl_last {j x : Nat} (h0 : P.vl L b = []) (hj : j ≤ L.length) (hb : P.beg (L ++ [x]) j = true) (hd : P.dof (L ++ [x]) (j + 1) = P.dof (L ++ [x]) (L.length + 1)) (h1 : P.viol (L ++ [x]) b 1 L.length = false) (h2 : P.viol (L ++ [x]) b 2 L.length = false) (h3 : P.viol (L ++ [x]) b 3 L.length = false)
    (h4 : P.viol (L ++ [x]) b 4 j = false) (h5 : P.viol (L ++ [x]) b 5 j = false) (h6 : P.viol (L ++ [x]) b 6 j = false) (h7 : ∀ i, i < L.length + 1 → P.viol (L ++ [x]) b 7 i = false) : P.vl (L ++ [x]) b = [] := by
  rw [vl_nil] at h0 ⊢
  have nb : ∀ k i, k = 4 ∨ k = 5 ∨ k = 6 → P.beg (L ++ [x]) i = false → P.viol (L ++ [x]) b k i = false := by
    intro k i hk hi
    rcases hk with rfl | rfl | rfl
    · show (P.beg (L ++ [x]) i && _) = false
      rw [hi]; rfl
    · show (P.beg (L ++ [x]) i && _) = false
      rw [hi]; rfl
    · show (P.beg (L ++ [x]) i && _) = false
      rw [hi]; rfl
  have at_j : ∀ k, k = 4 ∨ k = 5 ∨ k = 6 → P.viol (L ++ [x]) b k j = false := by
    intro k hk
    rcases hk with rfl | rfl | rfl
    · exact h4
    · exact h5
    · exact h6
  intro k k1 k2 i hi
  rw [len_ap] at hi
  by_cases k7 : k = 7
  · subst k7; exact h7 i hi
  by_cases k13 : k = 1 ∨ k = 2 ∨ k = 3
  · by_cases e : i < L.length
    · rw [vio_13 k13 e]; exact h0 k k1 k2 i e
    · have e : i = L.length := by omega
      subst e
      rcases k13 with rfl | rfl | rfl
      · exact h1
      · exact h2
      · exact h3
  have k46 : k = 4 ∨ k = 5 ∨ k = 6 := by omega
  cases hbi : P.beg (L ++ [x]) i with
  | false => exact nb k i k46 hbi
  | true =>
    by_cases e : i < L.length
    · have hda := dend_ap (P := P) (x := x) e
      by_cases e2 : P.dend L i = L.length ∧ P.beg (L ++ [x]) L.length = false
      · have e3 := (dend_dof e).mp e2.1
        have e4 : P.dof (L ++ [x]) (i + 1) = P.dof (L ++ [x]) (L.length + 1) := by
          rw [dof_s (k := L.length), e2.2, dof_ap _ (Nat.le_refl _), dof_ap _ (by omega), e3]; simp
        have : i = j := dof_inj hbi hb (e4.trans hd.symm)
        rw [this]; exact at_j k k46
      · rw [if_neg e2] at hda
        rw [vio_46 k46 e hda]; exact h0 k k1 k2 i e
    · have e : i = L.length := by omega
      subst e
      have : L.length = j := dof_inj hbi hb hd.symm
      rw [this]; exact at_j k k46
/-- a leg is behind a row -/
def Pl.bhd (P : Pl) (L : List Nat) (l : Nat) : Bool := decide (L.length = 0) || decide (P.dp (rg L (L.length - 1)) < P.dp l)
theorem pos_end (h : P.bhd L l = true) : P.pos L l L.length = L.length := by
  unfold Pl.bhd at h
  rw [Bool.or_eq_true, decide_eq_true_eq, decide_eq_true_eq] at h
  obtain ⟨n, hn⟩ : ∃ n, n = L.length := ⟨_, rfl⟩
  rw [← hn] at h ⊢
  cases n with
  | zero => rfl
  | succ n =>
    rw [Pl.pos, if_neg]
    intro w
    have := Pl.ltb_iff.mp w
    unfold Pl.lt at this
    rw [Nat.add_sub_cancel] at h
    omega
theorem ins_end {x : Nat} (h : P.pos L (x / 2) L.length = L.length) : P.ins L x = L ++ [x] := by
  unfold Pl.ins
  rw [h, List.take_length, List.drop_length]
def lastOk (P : Pl) (L : List Nat) (last : Int) : Prop := last = -1 ∨ (0 < L.length ∧ last = P.dp (rg L (L.length - 1)))
theorem srT_cl {last : Int} (hP : P.ok) (hV : RV P L) (hl : l < P.nl) (hla : lastOk P L last) : P.srT b L last l = true ↔ P.bhd L l = true ∧ P.isO l = true ∧ P.vl (L ++ [2 * l + 1]) b = [] := by
  have hdl := hP.2.2.1 l hl
  have ex : (2 * l + 1) / 2 = l := by omega
  rw [srT_iff]
  constructor
  · rintro ⟨h1, h2, h3, h4⟩
    rw [vat0_nil, ins_end (by rw [ex]; exact h3)] at h4
    refine ⟨?_, h2, h4⟩
    unfold Pl.bhd
    rw [Bool.or_eq_true, decide_eq_true_eq, decide_eq_true_eq]
    by_cases h0 : L.length = 0
    · exact Or.inl h0
    · right
      have hlo := pos_lo (P := P) (L := L) (l := l) L.length (by omega)
      rw [h3] at hlo
      have hd2 := hP.2.2.1 _ (hV.2 (L.length - 1) (by omega))
      have hv := vl_nil.mp h4 1 (by omega) (by omega) L.length (by rw [len_ap]; omega)
      have hv' : (decide (0 < L.length) && decide (P.gap (L ++ [2 * l + 1]) L.length < 0)) = false := hv
      rw [decide_eq_true (show 0 < L.length by omega), Bool.true_and, decide_eq_false_iff_not, gap_aph (by omega), ex] at hv'
      omega
  · rintro ⟨h1, h2, h3⟩
    have hp := pos_end h1
    refine ⟨?_, h2, hp, ?_⟩
    · rcases hla with e | ⟨e1, e2⟩
      · omega
      · unfold Pl.bhd at h1
        rw [Bool.or_eq_true, decide_eq_true_eq, decide_eq_true_eq] at h1
        omega
    · rw [vat0_nil, ins_end (by rw [ex]; exact hp)]; exact h3
theorem bhd_srt (hs : srt P L) (h : P.bhd L l = true) : srt P (L ++ [2 * l + 1]) := by
  have hp := pos_end h
  have ex : (2 * l + 1) / 2 = l := by omega
  rw [← ins_end (P := P) (x := 2 * l + 1) (by rw [ex]; exact hp)]
  refine ins_srt hs (fun i hi e => ?_)
  rw [ex] at e
  unfold Pl.bhd at h
  rw [Bool.or_eq_true, decide_eq_true_eq, decide_eq_true_eq] at h
  have : P.dp (rg L i) ≤ P.dp (rg L (L.length - 1)) := by
    by_cases z : i = L.length - 1
    · rw [z]; exact Int.le_refl _
    · have := hs i (L.length - 1) (by omega) (by omega)
      unfold Pl.lt at this
      omega
  rw [e] at this
  omega
theorem srt_24 (hP : P.ok) (hs : srt P (L ++ [2 * l + 1])) (hV : RV P L) (hl : l < P.nl) : L.length < 24 ∧ RV P (L ++ [2 * l + 1]) := by
  have h24 := hP.1
  have hg : ∀ i, i < (L ++ [2 * l + 1]).length → rg (L ++ [2 * l + 1]) i < P.nl := by
    intro i hi
    rw [len_ap] at hi
    by_cases e : i = L.length
    · rw [e, rg_aph]; omega
    · rw [rg_apl (by omega)]; exact hV.2 i (by omega)
  have := srt_len hs hg
  rw [len_ap] at this
  exact ⟨by omega, by rw [RV, len_ap]; exact ⟨by omega, by rw [← len_ap (L := L) (x := 2 * l + 1)]; exact hg⟩⟩
theorem srL_no {g : List Nat → List Nat → Int → Int → zBs → zBs} {W : List Nat} {sum last : Int} : ∀ (n l : Nat) (B : zBs), (∀ k, l ≤ k → k < l + n → P.srT b L last k = false) → P.srL b g L W sum last n l B = B := by
  intro n
  induction n with
  | zero => intro l B _; rfl
  | succ n ih =>
    intro l B h
    rw [Pl.srL, if_neg (by rw [h l (by omega) (by omega)]; decide)]
    exact ih _ _ (fun k h1 h2 => h k (by omega) (by omega))
/-- what the class's search makes of a best one -/
def Pl.exF (P : Pl) (b : Int) : Nat → List Nat → List Nat → Int → Int → zBs → zBs
  | 0, _, _, _, _, B => B
  | f + 1, L, W, sum, last, B => P.srL b (P.srF b f) L W sum last P.nl 0 B
theorem srF_ex {W : List Nat} {sum last : Int} {B : zBs} : ∀ f, P.srF b f L W sum last B = P.exF b f L W sum last (P.srB b L W sum B) := by
  intro f
  cases f with
  | zero => rfl
  | succ f => rfl
theorem bst_ex : P.bst c = P.exF (P.cr c 0) 6 (P.its c) [] 0 (-1) (0, []) := by
  unfold Pl.bst
  rw [srF_ex]
  congr 1
theorem bst_vl (hP : P.ok) (h : P.vl (P.its c) (P.cr c 0) ≠ []) : P.bst c = (0, []) := by
  rw [bst_ex]
  show P.srL (P.cr c 0) _ (P.its c) [] 0 (-1) P.nl 0 (0, []) = (0, [])
  refine srL_no _ _ _ (fun k _ hk => Bool.eq_false_iff.mpr (fun w => h ?_))
  exact vl_up hP (show k < P.nl by omega) ((srT_cl hP (its_RV hP) (show k < P.nl by omega) (Or.inl rfl)).mp w).2.2
end N37
