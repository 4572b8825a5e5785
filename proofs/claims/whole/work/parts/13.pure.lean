/-! rows, their order, insertion and removal: pure -/
theorem rc_app {L M : List Nat} {i : Nat} : rc (L ++ M) i = if i < L.length then rc L i else rc M (i - L.length) := by
  unfold rc
  simp only [List.getD_eq_getElem?_getD]
  split
  · rename_i h; rw [List.getElem?_append_left h]
  · rename_i h; rw [List.getElem?_append_right (by omega)]
theorem rc_cons {x : Nat} {L : List Nat} {i : Nat} : rc (x :: L) i = if i = 0 then x else rc L (i - 1) := by
  unfold rc
  cases i with
  | zero => simp
  | succ i => simp
theorem rc_take {L : List Nat} {p i : Nat} (h : i < p) : rc (L.take p) i = rc L i := by
  unfold rc
  simp only [List.getD_eq_getElem?_getD]
  rw [List.getElem?_take_of_lt h]
theorem rc_drop {L : List Nat} {p i : Nat} : rc (L.drop p) i = rc L (p + i) := by
  unfold rc
  simp only [List.getD_eq_getElem?_getD]
  rw [List.getElem?_drop]
theorem rc_mem {L : List Nat} {i : Nat} (h : i < L.length) : rc L i ∈ L := by
  unfold rc
  rw [List.getD_eq_getElem?_getD, List.getElem?_eq_getElem h]
  exact List.getElem_mem h
theorem mem_rc {L : List Nat} {x : Nat} (h : x ∈ L) : ∃ i, i < L.length ∧ rc L i = x := by
  obtain ⟨i, hi, e⟩ := List.mem_iff_getElem.mp h
  refine ⟨i, hi, ?_⟩
  unfold rc
  rw [List.getD_eq_getElem?_getD, List.getElem?_eq_getElem hi]
  exact e
theorem rc_ext {L M : List Nat} (hl : L.length = M.length) (h : ∀ i, i < L.length → rc L i = rc M i) : L = M := by
  apply List.ext_getElem hl
  intro i h1 h2
  have := h i h1
  unfold rc at this
  rw [List.getD_eq_getElem?_getD, List.getD_eq_getElem?_getD, List.getElem?_eq_getElem h1, List.getElem?_eq_getElem h2] at this
  simpa using this
theorem pos_le {P : Pl} {L : List Nat} {l : Nat} : ∀ n, P.pos L l n ≤ n := by
  intro n
  induction n with
  | zero => exact Nat.le_refl _
  | succ n ih =>
    rw [Pl.pos]
    split <;> omega
theorem pos_hi {P : Pl} {L : List Nat} {l : Nat} : ∀ n i, P.pos L l n ≤ i → i < n → P.lt l (rg L i) := by
  intro n
  induction n with
  | zero => intro i h1 h2; omega
  | succ n ih =>
    intro i h1 h2
    rw [Pl.pos] at h1
    split at h1
    · rename_i q
      by_cases e : i = n
      · subst e; exact Pl.ltb_iff.mp q
      · exact ih i h1 (by omega)
    · omega
theorem pos_lo {P : Pl} {L : List Nat} {l : Nat} : ∀ n, 0 < P.pos L l n → ¬ P.lt l (rg L (P.pos L l n - 1)) := by
  intro n
  induction n with
  | zero => intro h; exact absurd h (by simp [Pl.pos])
  | succ n ih =>
    intro h
    rw [Pl.pos] at h ⊢
    split
    · rename_i q
      rw [if_pos q] at h
      exact ih h
    · rename_i q
      rw [Nat.add_sub_cancel]
      intro z
      exact q (Pl.ltb_iff.mpr z)
theorem ins_len {P : Pl} {L : List Nat} {x : Nat} : (P.ins L x).length = L.length + 1 := by
  have := pos_le (P := P) (L := L) (l := x / 2) L.length
  unfold Pl.ins
  simp
  omega
theorem rc_ins {P : Pl} {L : List Nat} {x i : Nat} : rc (P.ins L x) i = if i < P.pos L (x / 2) L.length then rc L i else if i = P.pos L (x / 2) L.length then x else rc L (i - 1) := by
  have hp := pos_le (P := P) (L := L) (l := x / 2) L.length
  unfold Pl.ins
  rw [rc_app, List.length_take, Nat.min_eq_left hp]
  split
  · rename_i h; exact rc_take h
  · rename_i h
    rw [rc_cons]
    by_cases e : i = P.pos L (x / 2) L.length
    · rw [if_pos (by omega), if_pos e]
    · rw [if_neg (by omega), if_neg e, rc_drop]
      congr 1
      omega
theorem rc_erase {L : List Nat} {p i : Nat} (hp : p < L.length) : rc (L.eraseIdx p) i = if i < p then rc L i else rc L (i + 1) := by
  unfold rc
  simp only [List.getD_eq_getElem?_getD, List.getElem?_eraseIdx]
  split <;> rfl
theorem ins_erase {P : Pl} {L : List Nat} {x : Nat} : (P.ins L x).eraseIdx (P.pos L (x / 2) L.length) = L := by
  have hp := pos_le (P := P) (L := L) (l := x / 2) L.length
  have hl : P.pos L (x / 2) L.length < (P.ins L x).length := by rw [ins_len]; omega
  apply rc_ext
  · rw [List.length_eraseIdx_of_lt hl, ins_len, Nat.add_sub_cancel]
  · intro i _
    rw [rc_erase hl, rc_ins, rc_ins]
    split
    · rfl
    · rw [if_neg (by omega), if_neg (by omega), Nat.add_sub_cancel]
/-- in order, strictly -/
def srt (P : Pl) (L : List Nat) : Prop := ∀ i j, i < j → j < L.length → P.lt (rg L i) (rg L j)
theorem ins_srt {P : Pl} {L : List Nat} {x : Nat} (h : srt P L) (hx : ∀ i, i < L.length → rg L i ≠ x / 2) : srt P (P.ins L x) := by
  have hp := pos_le (P := P) (L := L) (l := x / 2) L.length
  have lo : ∀ i, i < P.pos L (x / 2) L.length → P.lt (rg L i) (x / 2) := by
    intro i hi
    have h1 := pos_lo (P := P) (L := L) (l := x / 2) L.length (by omega)
    have h2 : P.lt (rg L (P.pos L (x / 2) L.length - 1)) (x / 2) := by
      rcases Pl.lt_tri (P := P) (rg L (P.pos L (x / 2) L.length - 1)) (x / 2) with q | q | q
      · exact q
      · exact absurd q (hx _ (by omega))
      · exact absurd q h1
    by_cases e : i = P.pos L (x / 2) L.length - 1
    · rw [e]; exact h2
    · exact Pl.lt_trans (h i _ (by omega) (by omega)) h2
  intro i j hij hj
  rw [ins_len] at hj
  have g : ∀ k, rg (P.ins L x) k = if k < P.pos L (x / 2) L.length then rg L k else if k = P.pos L (x / 2) L.length then x / 2 else rg L (k - 1) := by
    intro k
    unfold rg
    rw [rc_ins]
    split
    · rfl
    · split <;> rfl
  rw [g i, g j]
  by_cases a1 : i < P.pos L (x / 2) L.length
  · rw [if_pos a1]
    by_cases b1 : j < P.pos L (x / 2) L.length
    · rw [if_pos b1]; exact h i j hij (by omega)
    · rw [if_neg b1]
      by_cases b2 : j = P.pos L (x / 2) L.length
      · rw [if_pos b2]; exact lo i a1
      · rw [if_neg b2]; exact h i (j - 1) (by omega) (by omega)
  · rw [if_neg a1, if_neg (show ¬ j < P.pos L (x / 2) L.length by omega), if_neg (show ¬ j = P.pos L (x / 2) L.length by omega)]
    by_cases a2 : i = P.pos L (x / 2) L.length
    · rw [if_pos a2]
      exact pos_hi L.length (j - 1) (by omega) (by omega)
    · rw [if_neg a2]
      exact h (i - 1) (j - 1) (by omega) (by omega)
theorem mem_ins {P : Pl} {L : List Nat} {x y : Nat} : y ∈ P.ins L x ↔ y = x ∨ y ∈ L := by
  unfold Pl.ins
  rw [List.mem_append, List.mem_cons]
  constructor
  · rintro (h | h | h)
    · exact Or.inr (List.mem_of_mem_take h)
    · exact Or.inl h
    · exact Or.inr (List.mem_of_mem_drop h)
  · rintro (h | h)
    · exact Or.inr (Or.inl h)
    · rw [← List.take_append_drop (P.pos L (x / 2) L.length) L, List.mem_append] at h
      rcases h with h | h
      · exact Or.inl h
      · exact Or.inr (Or.inr h)
/-- two rows in order that hold the same codes are the same -/
theorem srt_eq {P : Pl} : ∀ (L M : List Nat), srt P L → srt P M → (∀ x, x ∈ L ↔ x ∈ M) → L = M := by
  intro L
  induction L with
  | nil =>
    intro M _ _ h
    cases M with
    | nil => rfl
    | cons y M => exact absurd ((h y).mpr List.mem_cons_self) List.not_mem_nil
  | cons x L ih =>
    intro M hL hM h
    have tl : ∀ {a : Nat} {K : List Nat}, srt P (a :: K) → srt P K ∧ ∀ y, y ∈ K → P.lt (a / 2) (y / 2) := by
      intro a K hs
      refine ⟨fun i j hij hj => ?_, fun y hy => ?_⟩
      · have := hs (i + 1) (j + 1) (by omega) (by rw [List.length_cons]; omega)
        unfold rg at this ⊢
        rw [rc_cons, rc_cons, if_neg (by omega), if_neg (by omega), Nat.add_sub_cancel, Nat.add_sub_cancel] at this
        exact this
      · obtain ⟨i, hi, e⟩ := mem_rc hy
        have := hs 0 (i + 1) (by omega) (by rw [List.length_cons]; omega)
        unfold rg at this
        rw [rc_cons, rc_cons, if_pos rfl, if_neg (by omega), Nat.add_sub_cancel, e] at this
        exact this
    cases M with
    | nil => exact absurd ((h x).mp List.mem_cons_self) List.not_mem_nil
    | cons y M =>
      have e : x = y := by
        rcases List.mem_cons.mp ((h x).mp List.mem_cons_self) with q | q
        · exact q
        · rcases List.mem_cons.mp ((h y).mpr List.mem_cons_self) with q2 | q2
          · exact q2.symm
          · exact absurd (Pl.lt_trans ((tl hM).2 x q) ((tl hL).2 y q2)) Pl.lt_irrefl
      subst e
      have nx : ∀ {K : List Nat}, srt P (x :: K) → x ∉ K := fun hs hx => Pl.lt_irrefl ((tl hs).2 x hx)
      rw [ih M (tl hL).1 (tl hM).1 (fun z => ⟨fun hz => ?_, fun hz => ?_⟩)]
      · rcases List.mem_cons.mp ((h z).mp (List.mem_cons_of_mem _ hz)) with q | q
        · exact absurd (q ▸ hz) (nx hL)
        · exact q
      · rcases List.mem_cons.mp ((h z).mpr (List.mem_cons_of_mem _ hz)) with q | q
        · exact absurd (q ▸ hz) (nx hM)
        · exact q
theorem ordF_ok {P : Pl} : ∀ n, srt P (P.ordF n) ∧ (∀ x, x ∈ P.ordF n ↔ ∃ l, l < n ∧ x = 2 * l) ∧ (P.ordF n).length = n := by
  intro n
  induction n with
  | zero => exact ⟨fun i j _ h => by simp [Pl.ordF] at h, fun x => by simp [Pl.ordF], rfl⟩
  | succ n ih =>
    obtain ⟨h1, h2, h3⟩ := ih
    rw [Pl.ordF]
    refine ⟨ins_srt h1 (fun i hi e => ?_), fun x => ?_, by rw [ins_len, h3]⟩
    · obtain ⟨l, hl, e2⟩ := (h2 _).mp (rc_mem hi)
      unfold rg at e
      omega
    · rw [mem_ins, h2]
      constructor
      · rintro (h | ⟨l, hl, h⟩)
        · exact ⟨n, by omega, h⟩
        · exact ⟨l, by omega, h⟩
      · rintro ⟨l, hl, h⟩
        by_cases e : l = n
        · exact Or.inl (by omega)
        · exact Or.inr ⟨l, by omega, h⟩
theorem ord_mem {P : Pl} {l : Nat} : l ∈ P.ord ↔ l < P.nl := by
  unfold Pl.ord
  rw [List.mem_map]
  constructor
  · rintro ⟨x, hx, rfl⟩
    obtain ⟨l, hl, rfl⟩ := ((ordF_ok P.nl).2.1 x).mp hx
    omega
  · intro h
    exact ⟨2 * l, ((ordF_ok P.nl).2.1 _).mpr ⟨l, h, rfl⟩, by omega⟩
theorem ord_len {P : Pl} : P.ord.length = P.nl := by
  unfold Pl.ord
  rw [List.length_map]
  exact (ordF_ok P.nl).2.2
theorem ord_pw {P : Pl} : P.ord.Pairwise P.lt := by
  rw [List.pairwise_iff_getElem]
  intro i j hi hj hij
  have h1 : i < (P.ordF P.nl).length := by rw [(ordF_ok P.nl).2.2, ← ord_len (P := P)]; exact hi
  have h2 : j < (P.ordF P.nl).length := by rw [(ordF_ok P.nl).2.2, ← ord_len (P := P)]; exact hj
  have := (ordF_ok (P := P) P.nl).1 i j hij h2
  unfold rg rc at this
  rw [List.getD_eq_getElem?_getD, List.getD_eq_getElem?_getD, List.getElem?_eq_getElem h1, List.getElem?_eq_getElem h2] at this
  simpa [Pl.ord] using this
theorem its_mem {P : Pl} {c x : Nat} : x ∈ P.its c ↔ x / 2 < P.nl ∧ P.tk c (x / 2) ≠ 0 ∧ x % 2 = (if P.tk c (x / 2) = 1 then 1 else 0) := by
  unfold Pl.its
  rw [List.mem_map]
  constructor
  · rintro ⟨l, hl, rfl⟩
    rw [List.mem_filter, ord_mem] at hl
    have e : (2 * l + (if P.tk c l = 1 then 1 else 0)) / 2 = l := by split <;> omega
    rw [e]
    exact ⟨hl.1, by simpa using hl.2, by split <;> omega⟩
  · rintro ⟨h1, h2, h3⟩
    exact ⟨x / 2, by rw [List.mem_filter, ord_mem]; exact ⟨h1, by simpa using h2⟩, by rw [← h3]; omega⟩
theorem its_srt {P : Pl} {c : Nat} : srt P (P.its c) := by
  have h : (P.its c).Pairwise (fun x y => P.lt (x / 2) (y / 2)) := by
    unfold Pl.its
    rw [List.pairwise_map]
    refine (ord_pw.filter _).imp ?_
    intro a b hab
    have e : ∀ l, (2 * l + (if P.tk c l = 1 then 1 else 0)) / 2 = l := by intro l; split <;> omega
    rw [e, e]
    exact hab
  intro i j hij hj
  rw [List.pairwise_iff_getElem] at h
  have := h i j (by omega) hj hij
  unfold rg rc
  rw [List.getD_eq_getElem?_getD, List.getD_eq_getElem?_getD, List.getElem?_eq_getElem (by omega), List.getElem?_eq_getElem hj]
  exact this
theorem its_len {P : Pl} {c : Nat} : (P.its c).length ≤ P.nl := by
  unfold Pl.its
  rw [List.length_map, ← ord_len (P := P)]
  exact List.length_filter_le _ _
theorem srt_inj {P : Pl} {L : List Nat} (h : srt P L) {i j : Nat} (hi : i < L.length) (hj : j < L.length) (e : rg L i = rg L j) : i = j := by
  rcases Nat.lt_trichotomy i j with q | q | q
  · have := h i j q hj; rw [e] at this; exact absurd this Pl.lt_irrefl
  · exact q
  · have := h j i q hi; rw [e] at this; exact absurd this Pl.lt_irrefl
