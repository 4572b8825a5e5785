/-! the relation of the two systems, and what keeps it -/
def RC (F A : Nat → Nat → Int32) (P : Pl) (H : List Pl) (S : Option Pl) (E : List zEn) (X : List Int) : Prop := CP F A 1 P ∧ CH F A H ∧ CS F A S ∧ CE F A E ∧ CX F A X
def RM (F : Nat → Int32) (A : Nat → Nat → Int32) (P : Pl) (H : List Pl) (S : Option Pl) (E : List zEn) (X : List Int) : Prop := MS (A 1) P ∧ MH F A H ∧ MV F A S ∧ MEL F A E ∧ MX F A X ∧ F 6 = Int32.ofInt (zb false)
def Rel (FC AC : Nat → Nat → Int32) (FM : Nat → Int32) (AM : Nat → Nat → Int32) : Prop := ∃ P H S E X, P.ok ∧ RC FC AC P H S E X ∧ RM FM AM P H S E X
section ZRC
variable {F A F' A' : Nat → Nat → Int32} {P P' : Pl} {H H' : List Pl} {S S' : Option Pl} {E E' : List zEn} {X X' : List Int}
theorem CX.cg (h : CX F A X) (h1 : F' 222 = F 222) (h2 : A' 223 = A 223) : CX F' A' X := by unfold CX; rw [h1, h2]; exact h
theorem CS.cg (h : CS F A S) (hE : ∀ q, q = 0 ∨ (37 ≤ q ∧ q < 55) → F' q = F q ∧ A' q = A q) : CS F' A' S := by
  refine ⟨by rw [(hE 0 (by omega)).1]; exact h.1, fun Q hQ => ⟨(h.2 Q hQ).1, ?_⟩⟩
  exact (h.2 Q hQ).2.cg (by rw [(hE 37 (by omega)).1]) (by rw [(hE 37 (by omega)).1]) (fun j hj => (hE _ (by omega)).2)
theorem RC.ch (h : RC F A P H S E X) (hE : chE F A F' A') (h1 : CP F' A' 1 P') (h2 : CH F' A' H') : RC F' A' P' H' S E X :=
  ⟨h1, h2, h.2.2.1.cg (fun q hq => hE q (by omega)), h.2.2.2.1.cg (hE 212 (by omega)).1 (fun q h1 h2 => (hE q (by omega)).2), h.2.2.2.2.cg (hE 222 (by omega)).1 (hE 223 (by omega)).2⟩
theorem RC.wk (h : RC F A P H S E X) (h1 : ∀ q, q < 201 ∨ (212 ≤ q ∧ q < 217) ∨ 222 ≤ q → F' q = F q ∧ A' q = A q) : RC F' A' P H S E X :=
  h.ch (fun q hq => h1 q (by omega)) (h.1.cg (by rw [(h1 1 (by omega)).1]) (by rw [(h1 1 (by omega)).1]) (fun j hj => (h1 _ (by omega)).2)) (h.2.1.cg (fun q g1 g2 => (h1 q (by omega)).1) (fun q g1 g2 => (h1 q (by omega)).2))
theorem RC.cr (h : RC F A P H S E X) (h1 : crE F A F' A') : RC F' A' P H S E X := h.wk (fun q hq => ⟨h1.1 q (by omega), h1.2 q (by omega)⟩)
theorem RC.ob (h : RC F A P H S E X) (h1 : obE F A F' A') : RC F' A' P H S E X := h.wk (fun q hq => ⟨h1.1 q (by omega) (by omega), h1.2 q (by omega)⟩)
theorem RC.sb (h : RC F A P H S E X) (h1 : sbE F A F' A') : RC F' A' P H S E X := h.wk (fun q hq => ⟨h1.1 q (by omega) (by omega), h1.2 q (by omega)⟩)
theorem RC.rp (h : RC F A P H S E X) (h1 : rpE F A F' A') : RC F' A' P H S E X := h.wk (fun q hq => ⟨h1.1 q (by omega) (by omega), h1.2 q (by omega)⟩)
theorem RC.save (h : RC F A P H S E X) (h1 : ∀ q, q ≠ 0 → q ≠ 37 → F' q = F q) (h2 : ∀ q, q < 37 ∨ 55 ≤ q → A' q = A q) (h3 : CP F' A' 1 P) (h4 : CS F' A' S') : RC F' A' P H S' E X :=
  ⟨h3, h.2.1.cg (fun q g1 g2 => h1 q (by omega) (by omega)) (fun q g1 g2 => h2 q (by omega)), h4, h.2.2.2.1.cg (h1 212 (by omega) (by omega)) (fun q g1 g2 => h2 q (by omega)), h.2.2.2.2.cg (h1 222 (by omega) (by omega)) (h2 223 (by omega))⟩
theorem RC.feed (h : RC F A P H S E X) (h1 : ∀ q, q ≠ 222 → F' q = F q) (h2 : ∀ q, q ≠ 223 → A' q = A q) (h3 : CX F' A' X') : RC F' A' P H S E X' :=
  ⟨h.1.cg (by rw [h1 1 (by omega)]) (by rw [h1 1 (by omega)]) (fun j hj => h2 _ (by omega)), h.2.1.cg (fun q g1 g2 => h1 q (by omega)) (fun q g1 g2 => h2 q (by omega)), h.2.2.1.cg (fun q hq => ⟨h1 q (by omega), h2 q (by omega)⟩), h.2.2.2.1.cg (h1 212 (by omega)) (fun q g1 g2 => h2 q (by omega)), h3⟩
theorem RC.exec (h : RC F A P H S E X) (h1 : chX F A F' A') (h2 : CP F' A' 1 P') (h3 : CE F' A' E') (h4 : CX F' A' X') (h5 : CH F' A' H') : RC F' A' P' H' S E' X' := ⟨h2, h5, h.2.2.1.cg (fun q hq => h1 q hq), h3, h4⟩
theorem RC.rep (h : RC F A P H S E X) (h1 : chR F A F' A') (h2 : CP F' A' 1 P') (h3 : CE F' A' E') (h5 : CH F' A' H') : RC F' A' P' H' S E' X := ⟨h2, h5, h.2.2.1.cg (fun q hq => h1 q (by omega)), h3, h.2.2.2.2.cg (h1 222 (by omega)).1 (h1 223 (by omega)).2⟩
theorem aRes_ok {c a e : Int} (hP : P.ok) : (P.aRes c a e).2.ok := by
  unfold Pl.aRes
  split
  · rename_i h
    unfold Pl.goodRes at h
    have h := of_decide_eq_true h
    exact pRes_ok hP h.2.1 h.2.2
  · exact hP
end ZRC
section ZRM
variable {F F' : Nat → Int32} {A A' : Nat → Nat → Int32} {P P' : Pl} {H H' : List Pl} {S S' : Option Pl} {E E' : List zEn} {X X' : List Int}
theorem MV.cg (h : MV F A S) (h1 : F' 2 = F 2) (h2 : A' 2 = A 2) : MV F' A' S := by unfold MV; rw [h1, h2]; exact h
theorem MH.zcg (h : MH F A H) (h1 : F' 4 = F 4) (h2 : A' 3 = A 3) : MH F' A' H := by unfold MH; rw [h1, h2]; exact h
theorem MEL.cg (h : MEL F A E) (h1 : F' 18 = F 18) (h2 : A' 8 = A 8) : MEL F' A' E := by unfold MEL; rw [h1, h2]; exact h
theorem MX.cg (h : MX F A X) (h1 : F' 26 = F 26) (h2 : A' 12 = A 12) : MX F' A' X := by unfold MX; rw [h1, h2]; exact h
theorem RM.m (h : RM F A P H S E X) (h1 : mEq F A F' A') : RM F' A' P H S E X :=
  ⟨by rw [h1.2 1 (by omega)]; exact h.1, h.2.1.zcg (h1.1 4 (by omega)) (h1.2 3 (by omega)), h.2.2.1.cg (h1.1 2 (by omega)) (h1.2 2 (by omega)), h.2.2.2.1.cg (h1.1 18 (by omega)) (h1.2 8 (by omega)), h.2.2.2.2.1.cg (h1.1 26 (by omega)) (h1.2 12 (by omega)), (h1.1 6 (by omega)).trans h.2.2.2.2.2⟩
theorem RM.r (h : RM F A P H S E X) (h1 : rEq F A F' A') (h2 : MS (A' 1) P) : RM F' A' P H S E X :=
  ⟨h2, h.2.1.zcg (h1.1 4 (by omega) (by omega)) (h1.2 3 (by omega) (by omega)), h.2.2.1.cg (h1.1 2 (by omega) (by omega)) (h1.2 2 (by omega) (by omega)), h.2.2.2.1.cg (h1.1 18 (by omega) (by omega)) (h1.2 8 (by omega) (by omega)), h.2.2.2.2.1.cg (h1.1 26 (by omega) (by omega)) (h1.2 12 (by omega) (by omega)), (h1.1 6 (by omega) (by omega)).trans h.2.2.2.2.2⟩
theorem RM.c (h : RM F A P H S E X) (h1 : cEq F A F' A') (h2 : MS (A' 1) P') (h3 : MH F' A' H') : RM F' A' P' H' S E X :=
  ⟨h2, h3, h.2.2.1.cg (h1.1 2 (by omega)) (h1.2 2 (by omega)), h.2.2.2.1.cg (h1.1 18 (by omega)) (h1.2 8 (by omega)), h.2.2.2.2.1.cg (h1.1 26 (by omega)) (h1.2 12 (by omega)), (h1.1 6 (by omega)).trans h.2.2.2.2.2⟩
theorem RM.save (h : RM F A P H S E X) (h1 : ∀ k, k ≠ 2 → F' k = F k) (h2 : ∀ p, p ≠ 2 → A' p = A p) (h3 : MV F' A' S') : RM F' A' P H S' E X :=
  ⟨by rw [h2 1 (by omega)]; exact h.1, h.2.1.zcg (h1 4 (by omega)) (h2 3 (by omega)), h3, h.2.2.2.1.cg (h1 18 (by omega)) (h2 8 (by omega)), h.2.2.2.2.1.cg (h1 26 (by omega)) (h2 12 (by omega)), (h1 6 (by omega)).trans h.2.2.2.2.2⟩
theorem RM.feed (h : RM F A P H S E X) (h1 : ∀ k, k ≠ 26 → F' k = F k) (h2 : ∀ p, p ≠ 12 → A' p = A p) (h3 : MX F' A' X') : RM F' A' P H S E X' :=
  ⟨by rw [h2 1 (by omega)]; exact h.1, h.2.1.zcg (h1 4 (by omega)) (h2 3 (by omega)), h.2.2.1.cg (h1 2 (by omega)) (h2 2 (by omega)), h.2.2.2.1.cg (h1 18 (by omega)) (h2 8 (by omega)), h3, (h1 6 (by omega)).trans h.2.2.2.2.2⟩
theorem RM.exec (h : RM F A P H S E X) (h1 : F' 2 = F 2) (h2 : F' 6 = Int32.ofInt 0) (h3 : A' 2 = A 2) (h4 : MS (A' 1) P') (h5 : MEL F' A' E') (h6 : MX F' A' X') (h7 : MH F' A' H') : RM F' A' P' H' S E' X' := ⟨h4, h7, h.2.2.1.cg h1 h3, h5, h6, h2⟩
theorem RM.rep (h : RM F A P H S E X) (h1 : ∀ k, k = 2 ∨ k = 6 ∨ k = 26 ∨ k = 27 ∨ k = 28 → F' k = F k) (h2 : ∀ p, p = 2 ∨ p = 12 ∨ p = 4 → A' p = A p) (h3 : MS (A' 1) P') (h4 : MEL F' A' E') (h5 : MH F' A' H') : RM F' A' P' H' S E' X :=
  ⟨h3, h5, h.2.2.1.cg (h1 2 (by omega)) (h2 2 (by omega)), h4, h.2.2.2.2.1.cg (h1 26 (by omega)) (h2 12 (by omega)), (h1 6 (by omega)).trans h.2.2.2.2.2⟩
theorem MEL.me (h : MEL F A E) : ME F A E.length (fun i j => enV (E.getD i zE0) j) := by
  refine ⟨h.1, h.2.1, fun k hk j hj => ?_⟩
  have e : E[k]? = some (E.getD k zE0) := by rw [List.getD_eq_getElem?_getD, List.getElem?_eq_getElem hk]; rfl
  exact (h.2.2 k _ e).2 j hj
end ZRM
