/-! plans with the same legs and rules see a row alike; a task's cell -/
section N12
variable {P Q : Pl} {L : List Nat} {b : Int}
theorem lr_dp (hl : Q.lg = P.lg) (l : Nat) : Q.dp l = P.dp l := by unfold Pl.dp; rw [hl]
theorem lr_ar (hl : Q.lg = P.lg) (l : Nat) : Q.ar l = P.ar l := by unfold Pl.ar; rw [hl]
theorem lr_ln (hl : Q.lg = P.lg) (l : Nat) : Q.len l = P.len l := by unfold Pl.len; rw [lr_dp hl, lr_ar hl]
theorem lr_ltb (hl : Q.lg = P.lg) (a b : Nat) : Q.ltb a b = P.ltb a b := by unfold Pl.ltb; rw [lr_dp hl, lr_dp hl]
theorem lr_pos (hl : Q.lg = P.lg) (l : Nat) : ∀ n, Q.pos L l n = P.pos L l n := by
  intro n
  induction n with
  | zero => rfl
  | succ n ih => rw [Pl.pos, Pl.pos, ih, lr_ltb hl]
theorem lr_ins (hl : Q.lg = P.lg) (x : Nat) : Q.ins L x = P.ins L x := by unfold Pl.ins; rw [lr_pos hl]
theorem lr_ordF (hl : Q.lg = P.lg) : ∀ n, Q.ordF n = P.ordF n := by
  intro n
  induction n with
  | zero => rfl
  | succ n ih => rw [Pl.ordF, Pl.ordF, ih, lr_ins hl]
theorem lr_ord (hl : Q.lg = P.lg) (hn : Q.nl = P.nl) : Q.ord = P.ord := by unfold Pl.ord; rw [hn, lr_ordF hl]
theorem lr_gap (hl : Q.lg = P.lg) (i : Nat) : Q.gap L i = P.gap L i := by unfold Pl.gap; rw [lr_dp hl, lr_ar hl]
theorem lr_beg (hl : Q.lg = P.lg) (hr : Q.ru = P.ru) (i : Nat) : Q.beg L i = P.beg L i := by unfold Pl.beg; rw [lr_gap hl, hr]
theorem lr_dendF (hl : Q.lg = P.lg) (hr : Q.ru = P.ru) : ∀ k e, Q.dendF L k e = P.dendF L k e := by
  intro k
  induction k with
  | zero => intro e; rfl
  | succ k ih => intro e; rw [Pl.dendF, Pl.dendF, ih, lr_beg hl hr]
theorem lr_dend (hl : Q.lg = P.lg) (hr : Q.ru = P.ru) (i : Nat) : Q.dend L i = P.dend L i := by unfold Pl.dend; rw [lr_dendF hl hr]
theorem lr_fls (hl : Q.lg = P.lg) (a : Nat) : ∀ k, Q.fls L a k = P.fls L a k := by
  intro k
  induction k with
  | zero => rfl
  | succ k ih => rw [Pl.fls, Pl.fls, ih, lr_ln hl]
theorem lr_win (hl : Q.lg = P.lg) (s t : Int) : ∀ k, Q.win L s t k = P.win L s t k := by
  intro k
  induction k with
  | zero => rfl
  | succ k ih => rw [Pl.win, Pl.win, ih, lr_ar hl, lr_dp hl]
theorem lr_dof (hl : Q.lg = P.lg) (hr : Q.ru = P.ru) : ∀ k, Q.dof L k = P.dof L k := by
  intro k
  induction k with
  | zero => rfl
  | succ k ih => rw [Pl.dof, Pl.dof, ih, lr_beg hl hr]
theorem lr_viol (hl : Q.lg = P.lg) (hr : Q.ru = P.ru) (k i : Nat) : Q.viol L b k i = P.viol L b k i := by
  unfold Pl.viol
  rw [lr_gap hl, lr_beg hl hr, lr_dend hl hr, lr_fls hl, lr_win hl, lr_ar hl, lr_dp hl, hr, hl]
theorem lr_vR (hl : Q.lg = P.lg) (hr : Q.ru = P.ru) (k : Nat) : ∀ c i, Q.vR L b k c i = P.vR L b k c i := by
  intro c
  induction c with
  | zero => intro i; rfl
  | succ c ih => intro i; rw [Pl.vR, Pl.vR, ih, lr_viol hl hr]
theorem lr_vK (hl : Q.lg = P.lg) (hr : Q.ru = P.ru) : ∀ c k, Q.vK L b c k = P.vK L b c k := by
  intro c
  induction c with
  | zero => intro k; rfl
  | succ c ih => intro k; rw [Pl.vK, Pl.vK, ih, lr_vR hl hr]
theorem lr_vl (hl : Q.lg = P.lg) (hr : Q.ru = P.ru) : Q.vl L b = P.vl L b := lr_vK hl hr 7 1
theorem CR.lr {F A : Nat → Nat → Int32} (hl : Q.lg = P.lg) (hr : Q.ru = P.ru) (h : CR F A Q L b) : CR F A P L b := by
  obtain ⟨⟨h1, h2, h3⟩, h4, h5⟩ := h
  refine ⟨⟨h1, h2, by rw [h3, lr_dof hl hr]⟩, fun i hi => ?_, fun i hi hb => ?_⟩
  · have := h4 i hi
    rw [lr_gap hl, lr_dof hl hr] at this
    exact this
  · have := h5 i hi (by rw [lr_beg hl hr]; exact hb)
    rw [lr_dend hl hr, lr_dof hl hr, lr_fls hl] at this
    exact this
theorem CP.task {F A A' : Nat → Nat → Int32} {c l t : Nat} (hS : CP F A 1 P) (h1 : ∀ q, q ≠ 12 + c → A' q = A q) (hc : c < 6) (h2 : A' (12 + c) = upd (A (12 + c)) l (Int32.ofInt t)) : CP F A' 1 (P.pTask c l t) := by
  obtain ⟨a1, a2, a3, a4, a5, a6, a7⟩ := hS
  refine ⟨a1, ?_, ?_, ?_, ?_, ?_, ?_⟩
  · intro k hk
    rw [h1 _ (by omega), h1 _ (by omega), h1 _ (by omega), h1 _ (by omega), h1 _ (by omega)]
    exact a2 k hk
  · intro k hk
    rw [h1 _ (by omega), lr_ord (P := P) (Q := P.pTask c l t) rfl rfl]
    exact a3 k hk
  · intro k hk
    rw [h1 _ (by omega), h1 _ (by omega), h1 _ (by omega)]
    exact a4 k hk
  · intro k hk hk6
    rw [h1 _ (by omega), h1 _ (by omega)]
    exact a5 k hk hk6
  · intro k hk m hm
    have := a6 k hk m hm
    rw [pTask_tk]
    by_cases ek : k = c
    · subst ek
      rw [show 1 + 11 + k = 12 + k by omega] at this ⊢
      rw [h2]
      by_cases em : m = l
      · rw [if_pos ⟨rfl, em⟩, em, zup_s]
      · rw [if_neg (fun z => em z.2), zup_n em]; exact this
    · rw [if_neg (fun z => ek z.1), h1 _ (by omega)]
      exact this
  · intro r hr
    rw [h1 _ (by omega)]
    exact a7 r hr
end N12
