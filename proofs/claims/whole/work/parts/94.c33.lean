/-! repairs: pure -/
/-- a flown entry of a leg -/
def fm (E : List zEn) (l k : Nat) : Prop := (E.getD k zE0).2.1 = l ∧ (E.getD k zE0).2.2.1 = true
def EI (P : Pl) (E : List zEn) : Prop := (∀ l k, fm E l k → l < P.nl ∧ P.lg l 4 = 0 ∧ ∀ m, P.tk m l ≠ 1) ∧ ∀ l i j, fm E l i → fm E l j → i = j
def feF (E : List zEn) (l : Nat) : Nat → Nat → Int
  | 0, _ => -2
  | n + 1, i => if (E.getD i zE0).2.1 = l ∧ (E.getD i zE0).2.2.1 = true then (i : Int) else feF E l n (i + 1)
def fe (E : List zEn) (l : Nat) : Int := feF E l E.length 0
def Pl.rcF : List Nat → Pl → List zEn → Pl × List zEn
  | [], P, E => (P, E)
  | l :: L, P, E => if fe E l < 0 then Pl.rcF L P E else Pl.rcF L (P.pCall l) (E.set (fe E l).toNat ((E.getD (fe E l).toNat zE0).1, (E.getD (fe E l).toNat zE0).2.1, (E.getD (fe E l).toNat zE0).2.2.1, P.cld l))
section N35
variable {P Q : Pl} {E : List zEn} {l c : Nat}
theorem fm_lt {k : Nat} (h : fm E l k) : k < E.length := by
  rcases Nat.lt_or_ge k E.length with q | q
  · exact q
  · unfold fm at h
    rw [List.getD_eq_getElem?_getD, List.getElem?_eq_none q] at h
    exact absurd h.2 (by decide)
theorem ge_app {q : zEn} {k : Nat} : (E ++ [q]).getD k zE0 = if k < E.length then E.getD k zE0 else if k = E.length then q else zE0 := by
  rw [List.getD_eq_getElem?_getD, List.getD_eq_getElem?_getD]
  split
  · rename_i h; rw [List.getElem?_append_left h]
  · rename_i h
    rw [List.getElem?_append_right (by omega)]
    split
    · rename_i h2; rw [h2, Nat.sub_self]; rfl
    · rename_i h2
      rw [List.getElem?_eq_none (by simp; omega)]; rfl
theorem ge_set {q : zEn} {k j : Nat} (hk : k < E.length) : (E.set k q).getD j zE0 = if j = k then q else E.getD j zE0 := by
  rw [List.getD_eq_getElem?_getD, List.getD_eq_getElem?_getD]
  split
  · rename_i h; rw [h, List.getElem?_set_self hk]; rfl
  · rename_i h; rw [List.getElem?_set_ne (fun e => h e.symm)]
theorem fm_set {k j m : Nat} {r : Int} (hk : k < E.length) : fm (E.set k ((E.getD k zE0).1, (E.getD k zE0).2.1, (E.getD k zE0).2.2.1, r)) m j ↔ fm E m j := by
  unfold fm
  rw [ge_set hk]
  split
  · rename_i h; rw [h]
  · exact Iff.rfl
theorem feF_sp : ∀ n i, (feF E l n i = -2 ∧ ∀ k, i ≤ k → k < i + n → ¬ fm E l k) ∨ ∃ k : Nat, i ≤ k ∧ k < i + n ∧ feF E l n i = (k : Int) ∧ fm E l k ∧ ∀ j, i ≤ j → j < k → ¬ fm E l j := by
  intro n
  induction n with
  | zero => intro i; exact Or.inl ⟨rfl, fun k h1 h2 => by omega⟩
  | succ n ih =>
    intro i
    rw [feF]
    split
    · rename_i h
      exact Or.inr ⟨i, Nat.le_refl _, by omega, rfl, h, fun j h1 h2 => by omega⟩
    · rename_i h
      rcases ih (i + 1) with ⟨h1, h2⟩ | ⟨k, h1, h2, h3, h4, h5⟩
      · refine Or.inl ⟨h1, fun k h3 h4 => ?_⟩
        by_cases e : k = i
        · rw [e]; exact h
        · exact h2 k (by omega) (by omega)
      · refine Or.inr ⟨k, by omega, by omega, h3, h4, fun j h6 h7 => ?_⟩
        by_cases e : j = i
        · rw [e]; exact h
        · exact h5 j (by omega) h7
theorem fe_sp : (fe E l = -2 ∧ ∀ k, ¬ fm E l k) ∨ ∃ k : Nat, k < E.length ∧ fe E l = (k : Int) ∧ fm E l k := by
  rcases feF_sp (E := E) (l := l) E.length 0 with ⟨h1, h2⟩ | ⟨k, h1, h2, h3, h4, h5⟩
  · exact Or.inl ⟨h1, fun k h => h2 k (by omega) (by have := fm_lt h; omega) h⟩
  · exact Or.inr ⟨k, by omega, h3, h4⟩
theorem rsI_no : ∀ n i (P : Pl) (E : List zEn), (∀ k, i ≤ k → k < i + n → ¬ fm E l k) → Pl.rsI l n i P E = (P, E) := by
  intro n
  induction n with
  | zero => intro i P E _; rfl
  | succ n ih =>
    intro i P E h
    rw [Pl.rsI, if_neg (c := (E.getD i zE0).2.1 = l ∧ (E.getD i zE0).2.2.1 = true) (h i (by omega) (by omega)), ih _ _ _ (fun k h1 h2 => h k (by omega) (by omega))]
theorem rsI_at {k : Nat} (hk : fm E l k) (hu : ∀ j, fm E l j → j = k) : ∀ n i, i ≤ k → k < i + n → Pl.rsI l n i P E = (P.pCall l, E.set k ((E.getD k zE0).1, (E.getD k zE0).2.1, (E.getD k zE0).2.2.1, P.cld l)) := by
  intro n
  induction n with
  | zero => intro i h1 h2; omega
  | succ n ih =>
    intro i h1 h2
    rw [Pl.rsI]
    by_cases e : i = k
    · subst e
      rw [if_pos (c := (E.getD i zE0).2.1 = l ∧ (E.getD i zE0).2.2.1 = true) hk, rsI_no]
      intro j h3 h4 h5
      have := hu j ((fm_set (fm_lt hk)).mp h5)
      omega
    · rw [if_neg (c := (E.getD i zE0).2.1 = l ∧ (E.getD i zE0).2.2.1 = true) (fun w => e (hu i w))]
      exact ih (i + 1) (by omega) (by omega)
theorem rpO_rcF : ∀ (L : List Nat) (P : Pl) (E : List zEn) (f : Nat → Bool), (∀ l i j, fm E l i → fm E l j → i = j) → (∀ l, l ∈ L → f l = false → ∀ k, ¬ fm E l k) → Pl.rpO (L.filter (fun l => f l)) P E = Pl.rcF L P E := by
  intro L
  induction L with
  | nil => intro P E f _ _; rfl
  | cons l L ih =>
    intro P E f hu hf
    have hf1 : ∀ x, x ∈ L → f x = false → ∀ k, ¬ fm E x k := fun x hx => hf x (List.mem_cons_of_mem _ hx)
    rw [Pl.rcF]
    rcases fe_sp (E := E) (l := l) with ⟨h1, h2⟩ | ⟨k, h1, h2, h3⟩
    · rw [h1, if_pos (by omega)]
      by_cases e : f l = true
      · rw [List.filter_cons_of_pos e, Pl.rpO, rsI_no _ _ _ _ (fun k _ _ => h2 k)]
        exact ih P E f hu hf1
      · rw [List.filter_cons_of_neg e]
        exact ih P E f hu hf1
    · have e : f l = true := by
        cases e : f l with
        | true => rfl
        | false => exact absurd h3 (hf l List.mem_cons_self e k)
      rw [h2, if_neg (by omega), Int.toNat_natCast, List.filter_cons_of_pos e, Pl.rpO, rsI_at h3 (fun j hj => hu l j k hj h3) _ _ (by omega) (by omega)]
      exact ih _ _ f (fun m i j a b => hu m i j ((fm_set h1).mp a) ((fm_set h1).mp b)) (fun x hx hx2 j hj => hf1 x hx hx2 j ((fm_set h1).mp hj))
theorem EI.nil : EI P [] := ⟨fun l k h => absurd (fm_lt h) (by simp), fun l i j h => absurd (fm_lt h) (by simp)⟩
theorem EI.step {p : Nat} (hP : P.ok) (hE : EI P E) (hp : p < (P.its c).length) : EI (P.pTask c (rg (P.its c) p) 0) (E ++ [(c, rg (P.its c) p, rf (P.its c) p, -2)]) := by
  obtain ⟨h1, h2⟩ := its_rg hp
  have h4 := ((hP.2.2.2.2.1 c (rg (P.its c) p)).2 h2).2.2
  have h5 := (its_mem.mp (rc_mem hp)).2.2
  have hf : rf (P.its c) p = true → P.tk c (rg (P.its c) p) = 1 := by
    intro w
    have w2 : rc (P.its c) p % 2 = 1 := by simpa [rf] using w
    have h5' : rc (P.its c) p % 2 = if P.tk c (rg (P.its c) p) = 1 then 1 else 0 := h5
    rw [w2] at h5'
    by_cases z : P.tk c (rg (P.its c) p) = 1
    · exact z
    · rw [if_neg z] at h5'; omega
  generalize rg (P.its c) p = g at *
  generalize rf (P.its c) p = fl at *
  have hnew : ∀ l k, fm (E ++ [(c, g, fl, -2)]) l k → fm E l k ∨ (k = E.length ∧ l = g ∧ fl = true) := by
    intro l k h
    unfold fm at h
    rw [ge_app] at h
    split at h
    · exact Or.inl h
    · split at h
      · rename_i e; exact Or.inr ⟨e, h.1.symm, h.2⟩
      · exact absurd h.2 (by decide)
  refine ⟨fun l k h => ?_, fun l i j hi hj => ?_⟩
  · rcases hnew l k h with q | ⟨e1, e2, e3⟩
    · obtain ⟨r1, r2, r3⟩ := hE.1 l k q
      refine ⟨r1, r2, fun m => ?_⟩
      rw [pTask_tk]
      split
      · omega
      · exact r3 m
    · subst e2
      refine ⟨h1, h4, fun m => ?_⟩
      rw [pTask_tk]
      by_cases e : m = c
      · rw [if_pos ⟨e, rfl⟩]; omega
      · rw [if_neg (fun w => e w.1)]
        intro w
        exact e (hP.2.2.2.2.2.1 m c l w (hf e3))
  · rcases hnew l i hi with q | ⟨e1, e2, e3⟩
    · rcases hnew l j hj with q2 | ⟨f1, f2, f3⟩
      · exact hE.2 l i j q q2
      · subst f2
        exact absurd (hf f3) ((hE.1 l i q).2.2 c)
    · rcases hnew l j hj with q2 | ⟨f1, f2, f3⟩
      · subst e2
        exact absurd (hf e3) ((hE.1 l j q2).2.2 c)
      · omega
theorem cvF_EI : ∀ (n : Nat) (P : Pl) (E : List zEn), P.ok → EI P E → EI (Pl.cvF c n P E).1 (Pl.cvF c n P E).2 := by
  intro n
  induction n with
  | zero => intro P E _ hE; exact hE
  | succ n ih =>
    intro P E hP hE
    rw [Pl.cvF]
    split
    · exact hE
    · rename_i h
      exact ih _ _ (pTask_ok hP (by omega) (fun h => absurd rfl h) (fun h => absurd h (by omega))) (hE.step hP (fvp_ok h).1)
theorem cvF_same : ∀ (n : Nat) (P : Pl) (E : List zEn), (Pl.cvF c n P E).1.lg = P.lg ∧ (Pl.cvF c n P E).1.nl = P.nl ∧ (Pl.cvF c n P E).1.nc = P.nc := by
  intro n
  induction n with
  | zero => intro P E; exact ⟨rfl, rfl, rfl⟩
  | succ n ih =>
    intro P E
    rw [Pl.cvF]
    split
    · exact ⟨rfl, rfl, rfl⟩
    · exact ih _ _
theorem cvA_pr : ∀ (n c : Nat) (P : Pl) (E : List zEn), P.ok → EI P E → (Pl.cvA n c P E).1.ok ∧ EI (Pl.cvA n c P E).1 (Pl.cvA n c P E).2 ∧ (Pl.cvA n c P E).1.lg = P.lg ∧ (Pl.cvA n c P E).1.nl = P.nl ∧ (Pl.cvA n c P E).2.length ≤ E.length + 24 * n := by
  intro n
  induction n with
  | zero => intro c P E hP hE; exact ⟨hP, hE, rfl, rfl, Nat.le_refl _⟩
  | succ n ih =>
    intro c P E hP hE
    rw [Pl.cvA]
    obtain ⟨a1, a2, a3, a4, a5⟩ := cvF_pr (c := c) 24 P E hP
    obtain ⟨b1, b2, b3⟩ := cvF_same (c := c) 24 P E
    obtain ⟨d1, d2, d3, d4, d5⟩ := ih (c + 1) _ _ a1 (cvF_EI (c := c) 24 P E hP hE)
    exact ⟨d1, d2, d3.trans b1, d4.trans b2, by omega⟩
theorem fyF_none (h : ∀ m, P.tk m l ≠ 1) : ∀ n k, P.fyF l n k = -2 := by
  intro n
  induction n with
  | zero => intro k; rfl
  | succ n ih => intro k; rw [Pl.fyF, if_neg (h k), ih]
theorem isO_of (h4 : P.lg l 4 = 0) (h : ∀ m, P.tk m l ≠ 1) : P.isO l = true := by
  unfold Pl.isO Pl.fy
  rw [fyF_none h, decide_eq_true h4]
  rfl
theorem aRep_eq (hP : P.ok) : P.aRep = Pl.rcF P.ord P.rpB.1 P.rpB.2 := by
  obtain ⟨d1, d2, d3, d4, d5⟩ := cvA_pr P.nc 0 P [] hP EI.nil
  unfold Pl.aRep
  rw [opn_half]
  have e : P.rpB.1.ord = P.ord := lr_ord d3 d4
  rw [e]
  exact rpO_rcF _ _ _ _ d2.2 (fun l _ hf k hk => by
    obtain ⟨r1, r2, r3⟩ := d2.1 l k hk
    rw [show P.rpB.1.isO l = true from isO_of r2 r3] at hf
    exact absurd hf (by decide))
theorem pCall_same : (P.pCall l).lg = P.lg ∧ (P.pCall l).nl = P.nl ∧ (P.pCall l).nc = P.nc := by
  unfold Pl.pCall
  split <;> exact ⟨rfl, rfl, rfl⟩
theorem pCall_isO {x : Nat} (hx : x ≠ l) : (P.pCall l).isO x = P.isO x := by
  have ht : ∀ k, (P.pCall l).tk k x = 1 ↔ P.tk k x = 1 := by
    intro k
    unfold Pl.pCall
    split
    · rw [pTask_tk, if_neg (fun w => hx w.2)]
    · exact Iff.rfl
  unfold Pl.isO
  rw [fy_iff ht pCall_same.2.2, pCall_same.1]
theorem pCall_ok (hP : P.ok) (hl : l < P.nl) : (P.pCall l).ok := by
  unfold Pl.pCall
  rcases cld_r (P := P) (l := l) with h | ⟨h1, h2, h3⟩
  · rw [if_neg (by omega)]; exact hP
  · rw [if_pos h1]
    obtain ⟨k1, k2, k3⟩ := hnd_no hP (show (P.cld l).toNat < P.nc by omega) hl (fl := true) (by omega)
    exact pTask_ok hP (by omega) (fun _ => ⟨by omega, hl, k2⟩) (fun _ => k3 rfl)
theorem rcF_pr : ∀ (L : List Nat) (P : Pl) (E : List zEn), P.ok → (∀ l, l ∈ L → l < P.nl) → (Pl.rcF L P E).1.ok ∧ (Pl.rcF L P E).2.length = E.length := by
  intro L
  induction L with
  | nil => intro P E hP _; exact ⟨hP, rfl⟩
  | cons l L ih =>
    intro P E hP hl
    have hl1 : ∀ x, x ∈ L → x < P.nl := fun x hx => hl x (List.mem_cons_of_mem _ hx)
    rw [Pl.rcF]
    split
    · exact ih P E hP hl1
    · obtain ⟨u1, u2⟩ := ih (P.pCall l) (E.set (fe E l).toNat ((E.getD (fe E l).toNat zE0).1, (E.getD (fe E l).toNat zE0).2.1, (E.getD (fe E l).toNat zE0).2.2.1, P.cld l)) (pCall_ok hP (hl l List.mem_cons_self)) (fun x hx => by rw [pCall_same.2.1]; exact hl1 x hx)
      exact ⟨u1, by rw [u2, List.length_set]⟩
theorem aRep_ok (hP : P.ok) : P.aRep.1.ok ∧ P.aRep.2.length ≤ 144 := by
  have h6 := hP.2.1
  obtain ⟨d1, d2, d3, d4, d5⟩ := cvA_pr P.nc 0 P [] hP EI.nil
  rw [aRep_eq hP]
  obtain ⟨u1, u2⟩ := rcF_pr P.ord P.rpB.1 P.rpB.2 d1 (fun l hl => by
    show l < (Pl.cvA P.nc 0 P []).1.nl
    rw [d4]; exact ord_mem.mp hl)
  refine ⟨u1, ?_⟩
  rw [u2]
  show (Pl.cvA P.nc 0 P []).2.length ≤ 144
  simp at d5
  omega
end N35
