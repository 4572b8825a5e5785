/-! the reference: its object at 0 with fields f, its arrays at 1 to 13 -/
def mShape (q : Nat) (f a : Nat → Int32) : zCE := match q with
  | 0 => .inr (9, [.ref 1, .ref 2, .int (f 2), .ref 3, .int (f 4), .ref 4, .int (f 6), .ref 5, .int (f 8), .int (f 9), .ref 6, .int (f 11), .int (f 12), .int (f 13), .int (f 14), .int (f 15), .ref 7, .ref 8, .int (f 18), .ref 9, .ref 10, .int (f 21), .int (f 22), .ref 11, .int (f 24), .ref 12, .int (f 26), .int (f 27), .int (f 28), .ref 13])
  | 1 => .inl (0, 298, .inl a)
  | 2 => .inl (0, 298, .inl a)
  | 3 => .inl (0, 2384, .inl a)
  | 4 => .inl (0, 298, .inl a)
  | 5 => .inl (0, 48, .inl a)
  | 6 => .inl (0, 25, .inl a)
  | 7 => .inl (0, 25, .inl a)
  | 8 => .inl (0, 576, .inl a)
  | 9 => .inl (0, 6, .inl a)
  | 10 => .inl (0, 6, .inl a)
  | 11 => .inl (2, 768, .inl a)
  | 12 => .inl (2, 60, .inl a)
  | 13 => .inl (0, 4, .inl a)
  | _ => .inr (99, [])
def mW (F : Nat → Int32) (A : Nat → Nat → Int32) : zWd := (14, fun q => mShape q F (A q))
theorem mShape_f {q : Nat} {f g a : Nat → Int32} (h : q ≠ 0) : mShape q f a = mShape q g a := by
  unfold mShape
  split <;> first | rfl | exact absurd rfl h
theorem mW_arr {F : Nat → Int32} {A : Nat → Nat → Int32} {q : Nat} {f : Nat → Int32} {x : zCE} (h : mShape q F f = x) : zup (mW F A) q x = mW F (va_up A q f) := by
  unfold zup mW
  refine congrArg (Prod.mk 14) (funext fun i => ?_)
  by_cases e : i = q
  · subst e
    simp only [if_true, zvup_s]
    exact h.symm
  · simp only [e, if_false, zvup_n e]
theorem mW_obj {F : Nat → Int32} {A : Nat → Nat → Int32} {k : Nat} {v : Int32} {x : zCE} (h : mShape 0 (upd F k v) (A 0) = x) : zup (mW F A) 0 x = mW (upd F k v) A := by
  unfold zup mW
  refine congrArg (Prod.mk 14) (funext fun i => ?_)
  by_cases e : i = 0
  · subst e
    simp only [if_true]
    exact h.symm
  · simp only [e, if_false]
    exact mShape_f e
theorem mW_n {F : Nat → Int32} {A : Nat → Nat → Int32} : (mW F A).1 = 14 := rfl
theorem mW_c {F : Nat → Int32} {A : Nat → Nat → Int32} : zcls (mW F A) 0 = 9 := rfl
theorem mg_0 {F : Nat → Int32} {A : Nat → Nat → Int32} {P : Value → Prop} : zob (mW F A) 0 9 0 P = P (.ref 1) := propext ⟨fun h => h.2.2, fun h => ⟨(by decide : 0 < 14), rfl, h⟩⟩
theorem mg_1 {F : Nat → Int32} {A : Nat → Nat → Int32} {P : Value → Prop} : zob (mW F A) 0 9 1 P = P (.ref 2) := propext ⟨fun h => h.2.2, fun h => ⟨(by decide : 0 < 14), rfl, h⟩⟩
theorem mg_2 {F : Nat → Int32} {A : Nat → Nat → Int32} {P : Value → Prop} : zob (mW F A) 0 9 2 P = P (.int (F 2)) := propext ⟨fun h => h.2.2, fun h => ⟨(by decide : 0 < 14), rfl, h⟩⟩
theorem mp_2 {F : Nat → Int32} {A : Nat → Nat → Int32} {x : Int32} {P : zWd → Prop} : zpt (mW F A) 0 9 2 (.int x) P = P (mW (upd F 2 x) A) := by
  rw [← mW_obj (k := 2) (v := x) (A := A) rfl]
  exact propext ⟨fun h => h.2.2.2, fun h => ⟨(by decide : 0 < 14), rfl, (by decide : 2 < 30), h⟩⟩
theorem mg_3 {F : Nat → Int32} {A : Nat → Nat → Int32} {P : Value → Prop} : zob (mW F A) 0 9 3 P = P (.ref 3) := propext ⟨fun h => h.2.2, fun h => ⟨(by decide : 0 < 14), rfl, h⟩⟩
theorem mg_4 {F : Nat → Int32} {A : Nat → Nat → Int32} {P : Value → Prop} : zob (mW F A) 0 9 4 P = P (.int (F 4)) := propext ⟨fun h => h.2.2, fun h => ⟨(by decide : 0 < 14), rfl, h⟩⟩
theorem mp_4 {F : Nat → Int32} {A : Nat → Nat → Int32} {x : Int32} {P : zWd → Prop} : zpt (mW F A) 0 9 4 (.int x) P = P (mW (upd F 4 x) A) := by
  rw [← mW_obj (k := 4) (v := x) (A := A) rfl]
  exact propext ⟨fun h => h.2.2.2, fun h => ⟨(by decide : 0 < 14), rfl, (by decide : 4 < 30), h⟩⟩
theorem mg_5 {F : Nat → Int32} {A : Nat → Nat → Int32} {P : Value → Prop} : zob (mW F A) 0 9 5 P = P (.ref 4) := propext ⟨fun h => h.2.2, fun h => ⟨(by decide : 0 < 14), rfl, h⟩⟩
theorem mg_6 {F : Nat → Int32} {A : Nat → Nat → Int32} {P : Value → Prop} : zob (mW F A) 0 9 6 P = P (.int (F 6)) := propext ⟨fun h => h.2.2, fun h => ⟨(by decide : 0 < 14), rfl, h⟩⟩
theorem mp_6 {F : Nat → Int32} {A : Nat → Nat → Int32} {x : Int32} {P : zWd → Prop} : zpt (mW F A) 0 9 6 (.int x) P = P (mW (upd F 6 x) A) := by
  rw [← mW_obj (k := 6) (v := x) (A := A) rfl]
  exact propext ⟨fun h => h.2.2.2, fun h => ⟨(by decide : 0 < 14), rfl, (by decide : 6 < 30), h⟩⟩
theorem mg_7 {F : Nat → Int32} {A : Nat → Nat → Int32} {P : Value → Prop} : zob (mW F A) 0 9 7 P = P (.ref 5) := propext ⟨fun h => h.2.2, fun h => ⟨(by decide : 0 < 14), rfl, h⟩⟩
theorem mg_8 {F : Nat → Int32} {A : Nat → Nat → Int32} {P : Value → Prop} : zob (mW F A) 0 9 8 P = P (.int (F 8)) := propext ⟨fun h => h.2.2, fun h => ⟨(by decide : 0 < 14), rfl, h⟩⟩
theorem mp_8 {F : Nat → Int32} {A : Nat → Nat → Int32} {x : Int32} {P : zWd → Prop} : zpt (mW F A) 0 9 8 (.int x) P = P (mW (upd F 8 x) A) := by
  rw [← mW_obj (k := 8) (v := x) (A := A) rfl]
  exact propext ⟨fun h => h.2.2.2, fun h => ⟨(by decide : 0 < 14), rfl, (by decide : 8 < 30), h⟩⟩
theorem mg_9 {F : Nat → Int32} {A : Nat → Nat → Int32} {P : Value → Prop} : zob (mW F A) 0 9 9 P = P (.int (F 9)) := propext ⟨fun h => h.2.2, fun h => ⟨(by decide : 0 < 14), rfl, h⟩⟩
theorem mp_9 {F : Nat → Int32} {A : Nat → Nat → Int32} {x : Int32} {P : zWd → Prop} : zpt (mW F A) 0 9 9 (.int x) P = P (mW (upd F 9 x) A) := by
  rw [← mW_obj (k := 9) (v := x) (A := A) rfl]
  exact propext ⟨fun h => h.2.2.2, fun h => ⟨(by decide : 0 < 14), rfl, (by decide : 9 < 30), h⟩⟩
theorem mg_10 {F : Nat → Int32} {A : Nat → Nat → Int32} {P : Value → Prop} : zob (mW F A) 0 9 10 P = P (.ref 6) := propext ⟨fun h => h.2.2, fun h => ⟨(by decide : 0 < 14), rfl, h⟩⟩
theorem mg_11 {F : Nat → Int32} {A : Nat → Nat → Int32} {P : Value → Prop} : zob (mW F A) 0 9 11 P = P (.int (F 11)) := propext ⟨fun h => h.2.2, fun h => ⟨(by decide : 0 < 14), rfl, h⟩⟩
theorem mp_11 {F : Nat → Int32} {A : Nat → Nat → Int32} {x : Int32} {P : zWd → Prop} : zpt (mW F A) 0 9 11 (.int x) P = P (mW (upd F 11 x) A) := by
  rw [← mW_obj (k := 11) (v := x) (A := A) rfl]
  exact propext ⟨fun h => h.2.2.2, fun h => ⟨(by decide : 0 < 14), rfl, (by decide : 11 < 30), h⟩⟩
theorem mg_12 {F : Nat → Int32} {A : Nat → Nat → Int32} {P : Value → Prop} : zob (mW F A) 0 9 12 P = P (.int (F 12)) := propext ⟨fun h => h.2.2, fun h => ⟨(by decide : 0 < 14), rfl, h⟩⟩
theorem mp_12 {F : Nat → Int32} {A : Nat → Nat → Int32} {x : Int32} {P : zWd → Prop} : zpt (mW F A) 0 9 12 (.int x) P = P (mW (upd F 12 x) A) := by
  rw [← mW_obj (k := 12) (v := x) (A := A) rfl]
  exact propext ⟨fun h => h.2.2.2, fun h => ⟨(by decide : 0 < 14), rfl, (by decide : 12 < 30), h⟩⟩
theorem mg_13 {F : Nat → Int32} {A : Nat → Nat → Int32} {P : Value → Prop} : zob (mW F A) 0 9 13 P = P (.int (F 13)) := propext ⟨fun h => h.2.2, fun h => ⟨(by decide : 0 < 14), rfl, h⟩⟩
theorem mp_13 {F : Nat → Int32} {A : Nat → Nat → Int32} {x : Int32} {P : zWd → Prop} : zpt (mW F A) 0 9 13 (.int x) P = P (mW (upd F 13 x) A) := by
  rw [← mW_obj (k := 13) (v := x) (A := A) rfl]
  exact propext ⟨fun h => h.2.2.2, fun h => ⟨(by decide : 0 < 14), rfl, (by decide : 13 < 30), h⟩⟩
theorem mg_14 {F : Nat → Int32} {A : Nat → Nat → Int32} {P : Value → Prop} : zob (mW F A) 0 9 14 P = P (.int (F 14)) := propext ⟨fun h => h.2.2, fun h => ⟨(by decide : 0 < 14), rfl, h⟩⟩
theorem mp_14 {F : Nat → Int32} {A : Nat → Nat → Int32} {x : Int32} {P : zWd → Prop} : zpt (mW F A) 0 9 14 (.int x) P = P (mW (upd F 14 x) A) := by
  rw [← mW_obj (k := 14) (v := x) (A := A) rfl]
  exact propext ⟨fun h => h.2.2.2, fun h => ⟨(by decide : 0 < 14), rfl, (by decide : 14 < 30), h⟩⟩
theorem mg_15 {F : Nat → Int32} {A : Nat → Nat → Int32} {P : Value → Prop} : zob (mW F A) 0 9 15 P = P (.int (F 15)) := propext ⟨fun h => h.2.2, fun h => ⟨(by decide : 0 < 14), rfl, h⟩⟩
theorem mp_15 {F : Nat → Int32} {A : Nat → Nat → Int32} {x : Int32} {P : zWd → Prop} : zpt (mW F A) 0 9 15 (.int x) P = P (mW (upd F 15 x) A) := by
  rw [← mW_obj (k := 15) (v := x) (A := A) rfl]
  exact propext ⟨fun h => h.2.2.2, fun h => ⟨(by decide : 0 < 14), rfl, (by decide : 15 < 30), h⟩⟩
theorem mg_16 {F : Nat → Int32} {A : Nat → Nat → Int32} {P : Value → Prop} : zob (mW F A) 0 9 16 P = P (.ref 7) := propext ⟨fun h => h.2.2, fun h => ⟨(by decide : 0 < 14), rfl, h⟩⟩
theorem mg_17 {F : Nat → Int32} {A : Nat → Nat → Int32} {P : Value → Prop} : zob (mW F A) 0 9 17 P = P (.ref 8) := propext ⟨fun h => h.2.2, fun h => ⟨(by decide : 0 < 14), rfl, h⟩⟩
theorem mg_18 {F : Nat → Int32} {A : Nat → Nat → Int32} {P : Value → Prop} : zob (mW F A) 0 9 18 P = P (.int (F 18)) := propext ⟨fun h => h.2.2, fun h => ⟨(by decide : 0 < 14), rfl, h⟩⟩
theorem mp_18 {F : Nat → Int32} {A : Nat → Nat → Int32} {x : Int32} {P : zWd → Prop} : zpt (mW F A) 0 9 18 (.int x) P = P (mW (upd F 18 x) A) := by
  rw [← mW_obj (k := 18) (v := x) (A := A) rfl]
  exact propext ⟨fun h => h.2.2.2, fun h => ⟨(by decide : 0 < 14), rfl, (by decide : 18 < 30), h⟩⟩
theorem mg_19 {F : Nat → Int32} {A : Nat → Nat → Int32} {P : Value → Prop} : zob (mW F A) 0 9 19 P = P (.ref 9) := propext ⟨fun h => h.2.2, fun h => ⟨(by decide : 0 < 14), rfl, h⟩⟩
theorem mg_20 {F : Nat → Int32} {A : Nat → Nat → Int32} {P : Value → Prop} : zob (mW F A) 0 9 20 P = P (.ref 10) := propext ⟨fun h => h.2.2, fun h => ⟨(by decide : 0 < 14), rfl, h⟩⟩
theorem mg_21 {F : Nat → Int32} {A : Nat → Nat → Int32} {P : Value → Prop} : zob (mW F A) 0 9 21 P = P (.int (F 21)) := propext ⟨fun h => h.2.2, fun h => ⟨(by decide : 0 < 14), rfl, h⟩⟩
theorem mp_21 {F : Nat → Int32} {A : Nat → Nat → Int32} {x : Int32} {P : zWd → Prop} : zpt (mW F A) 0 9 21 (.int x) P = P (mW (upd F 21 x) A) := by
  rw [← mW_obj (k := 21) (v := x) (A := A) rfl]
  exact propext ⟨fun h => h.2.2.2, fun h => ⟨(by decide : 0 < 14), rfl, (by decide : 21 < 30), h⟩⟩
theorem mg_22 {F : Nat → Int32} {A : Nat → Nat → Int32} {P : Value → Prop} : zob (mW F A) 0 9 22 P = P (.int (F 22)) := propext ⟨fun h => h.2.2, fun h => ⟨(by decide : 0 < 14), rfl, h⟩⟩
theorem mp_22 {F : Nat → Int32} {A : Nat → Nat → Int32} {x : Int32} {P : zWd → Prop} : zpt (mW F A) 0 9 22 (.int x) P = P (mW (upd F 22 x) A) := by
  rw [← mW_obj (k := 22) (v := x) (A := A) rfl]
  exact propext ⟨fun h => h.2.2.2, fun h => ⟨(by decide : 0 < 14), rfl, (by decide : 22 < 30), h⟩⟩
theorem mg_23 {F : Nat → Int32} {A : Nat → Nat → Int32} {P : Value → Prop} : zob (mW F A) 0 9 23 P = P (.ref 11) := propext ⟨fun h => h.2.2, fun h => ⟨(by decide : 0 < 14), rfl, h⟩⟩
theorem mg_24 {F : Nat → Int32} {A : Nat → Nat → Int32} {P : Value → Prop} : zob (mW F A) 0 9 24 P = P (.int (F 24)) := propext ⟨fun h => h.2.2, fun h => ⟨(by decide : 0 < 14), rfl, h⟩⟩
theorem mp_24 {F : Nat → Int32} {A : Nat → Nat → Int32} {x : Int32} {P : zWd → Prop} : zpt (mW F A) 0 9 24 (.int x) P = P (mW (upd F 24 x) A) := by
  rw [← mW_obj (k := 24) (v := x) (A := A) rfl]
  exact propext ⟨fun h => h.2.2.2, fun h => ⟨(by decide : 0 < 14), rfl, (by decide : 24 < 30), h⟩⟩
theorem mg_25 {F : Nat → Int32} {A : Nat → Nat → Int32} {P : Value → Prop} : zob (mW F A) 0 9 25 P = P (.ref 12) := propext ⟨fun h => h.2.2, fun h => ⟨(by decide : 0 < 14), rfl, h⟩⟩
theorem mg_26 {F : Nat → Int32} {A : Nat → Nat → Int32} {P : Value → Prop} : zob (mW F A) 0 9 26 P = P (.int (F 26)) := propext ⟨fun h => h.2.2, fun h => ⟨(by decide : 0 < 14), rfl, h⟩⟩
theorem mp_26 {F : Nat → Int32} {A : Nat → Nat → Int32} {x : Int32} {P : zWd → Prop} : zpt (mW F A) 0 9 26 (.int x) P = P (mW (upd F 26 x) A) := by
  rw [← mW_obj (k := 26) (v := x) (A := A) rfl]
  exact propext ⟨fun h => h.2.2.2, fun h => ⟨(by decide : 0 < 14), rfl, (by decide : 26 < 30), h⟩⟩
theorem mg_27 {F : Nat → Int32} {A : Nat → Nat → Int32} {P : Value → Prop} : zob (mW F A) 0 9 27 P = P (.int (F 27)) := propext ⟨fun h => h.2.2, fun h => ⟨(by decide : 0 < 14), rfl, h⟩⟩
theorem mp_27 {F : Nat → Int32} {A : Nat → Nat → Int32} {x : Int32} {P : zWd → Prop} : zpt (mW F A) 0 9 27 (.int x) P = P (mW (upd F 27 x) A) := by
  rw [← mW_obj (k := 27) (v := x) (A := A) rfl]
  exact propext ⟨fun h => h.2.2.2, fun h => ⟨(by decide : 0 < 14), rfl, (by decide : 27 < 30), h⟩⟩
theorem mg_28 {F : Nat → Int32} {A : Nat → Nat → Int32} {P : Value → Prop} : zob (mW F A) 0 9 28 P = P (.int (F 28)) := propext ⟨fun h => h.2.2, fun h => ⟨(by decide : 0 < 14), rfl, h⟩⟩
theorem mp_28 {F : Nat → Int32} {A : Nat → Nat → Int32} {x : Int32} {P : zWd → Prop} : zpt (mW F A) 0 9 28 (.int x) P = P (mW (upd F 28 x) A) := by
  rw [← mW_obj (k := 28) (v := x) (A := A) rfl]
  exact propext ⟨fun h => h.2.2.2, fun h => ⟨(by decide : 0 < 14), rfl, (by decide : 28 < 30), h⟩⟩
theorem mg_29 {F : Nat → Int32} {A : Nat → Nat → Int32} {P : Value → Prop} : zob (mW F A) 0 9 29 P = P (.ref 13) := propext ⟨fun h => h.2.2, fun h => ⟨(by decide : 0 < 14), rfl, h⟩⟩
theorem ma_1 {F : Nat → Int32} {A : Nat → Nat → Int32} {P : Nat → (Nat → Int32) → Prop} : zar (mW F A) 1 0 P = P 298 (A 1) := propext ⟨fun h => h.2.2, fun h => ⟨(by decide : 1 < 14), rfl, h⟩⟩
theorem mu_1 {F : Nat → Int32} {A : Nat → Nat → Int32} {f : Nat → Int32} : zup (mW F A) 1 (.inl (0, 298, .inl f)) = mW F (va_up A 1 f) := mW_arr rfl
theorem ma_2 {F : Nat → Int32} {A : Nat → Nat → Int32} {P : Nat → (Nat → Int32) → Prop} : zar (mW F A) 2 0 P = P 298 (A 2) := propext ⟨fun h => h.2.2, fun h => ⟨(by decide : 2 < 14), rfl, h⟩⟩
theorem mu_2 {F : Nat → Int32} {A : Nat → Nat → Int32} {f : Nat → Int32} : zup (mW F A) 2 (.inl (0, 298, .inl f)) = mW F (va_up A 2 f) := mW_arr rfl
theorem ma_3 {F : Nat → Int32} {A : Nat → Nat → Int32} {P : Nat → (Nat → Int32) → Prop} : zar (mW F A) 3 0 P = P 2384 (A 3) := propext ⟨fun h => h.2.2, fun h => ⟨(by decide : 3 < 14), rfl, h⟩⟩
theorem mu_3 {F : Nat → Int32} {A : Nat → Nat → Int32} {f : Nat → Int32} : zup (mW F A) 3 (.inl (0, 2384, .inl f)) = mW F (va_up A 3 f) := mW_arr rfl
theorem ma_4 {F : Nat → Int32} {A : Nat → Nat → Int32} {P : Nat → (Nat → Int32) → Prop} : zar (mW F A) 4 0 P = P 298 (A 4) := propext ⟨fun h => h.2.2, fun h => ⟨(by decide : 4 < 14), rfl, h⟩⟩
theorem mu_4 {F : Nat → Int32} {A : Nat → Nat → Int32} {f : Nat → Int32} : zup (mW F A) 4 (.inl (0, 298, .inl f)) = mW F (va_up A 4 f) := mW_arr rfl
theorem ma_5 {F : Nat → Int32} {A : Nat → Nat → Int32} {P : Nat → (Nat → Int32) → Prop} : zar (mW F A) 5 0 P = P 48 (A 5) := propext ⟨fun h => h.2.2, fun h => ⟨(by decide : 5 < 14), rfl, h⟩⟩
theorem mu_5 {F : Nat → Int32} {A : Nat → Nat → Int32} {f : Nat → Int32} : zup (mW F A) 5 (.inl (0, 48, .inl f)) = mW F (va_up A 5 f) := mW_arr rfl
theorem ma_6 {F : Nat → Int32} {A : Nat → Nat → Int32} {P : Nat → (Nat → Int32) → Prop} : zar (mW F A) 6 0 P = P 25 (A 6) := propext ⟨fun h => h.2.2, fun h => ⟨(by decide : 6 < 14), rfl, h⟩⟩
theorem mu_6 {F : Nat → Int32} {A : Nat → Nat → Int32} {f : Nat → Int32} : zup (mW F A) 6 (.inl (0, 25, .inl f)) = mW F (va_up A 6 f) := mW_arr rfl
theorem ma_7 {F : Nat → Int32} {A : Nat → Nat → Int32} {P : Nat → (Nat → Int32) → Prop} : zar (mW F A) 7 0 P = P 25 (A 7) := propext ⟨fun h => h.2.2, fun h => ⟨(by decide : 7 < 14), rfl, h⟩⟩
theorem mu_7 {F : Nat → Int32} {A : Nat → Nat → Int32} {f : Nat → Int32} : zup (mW F A) 7 (.inl (0, 25, .inl f)) = mW F (va_up A 7 f) := mW_arr rfl
theorem ma_8 {F : Nat → Int32} {A : Nat → Nat → Int32} {P : Nat → (Nat → Int32) → Prop} : zar (mW F A) 8 0 P = P 576 (A 8) := propext ⟨fun h => h.2.2, fun h => ⟨(by decide : 8 < 14), rfl, h⟩⟩
theorem mu_8 {F : Nat → Int32} {A : Nat → Nat → Int32} {f : Nat → Int32} : zup (mW F A) 8 (.inl (0, 576, .inl f)) = mW F (va_up A 8 f) := mW_arr rfl
theorem ma_9 {F : Nat → Int32} {A : Nat → Nat → Int32} {P : Nat → (Nat → Int32) → Prop} : zar (mW F A) 9 0 P = P 6 (A 9) := propext ⟨fun h => h.2.2, fun h => ⟨(by decide : 9 < 14), rfl, h⟩⟩
theorem mu_9 {F : Nat → Int32} {A : Nat → Nat → Int32} {f : Nat → Int32} : zup (mW F A) 9 (.inl (0, 6, .inl f)) = mW F (va_up A 9 f) := mW_arr rfl
theorem ma_10 {F : Nat → Int32} {A : Nat → Nat → Int32} {P : Nat → (Nat → Int32) → Prop} : zar (mW F A) 10 0 P = P 6 (A 10) := propext ⟨fun h => h.2.2, fun h => ⟨(by decide : 10 < 14), rfl, h⟩⟩
theorem mu_10 {F : Nat → Int32} {A : Nat → Nat → Int32} {f : Nat → Int32} : zup (mW F A) 10 (.inl (0, 6, .inl f)) = mW F (va_up A 10 f) := mW_arr rfl
theorem ma_11 {F : Nat → Int32} {A : Nat → Nat → Int32} {P : Nat → (Nat → Int32) → Prop} : zar (mW F A) 11 2 P = P 768 (A 11) := propext ⟨fun h => h.2.2, fun h => ⟨(by decide : 11 < 14), rfl, h⟩⟩
theorem mu_11 {F : Nat → Int32} {A : Nat → Nat → Int32} {f : Nat → Int32} : zup (mW F A) 11 (.inl (2, 768, .inl f)) = mW F (va_up A 11 f) := mW_arr rfl
theorem ma_12 {F : Nat → Int32} {A : Nat → Nat → Int32} {P : Nat → (Nat → Int32) → Prop} : zar (mW F A) 12 2 P = P 60 (A 12) := propext ⟨fun h => h.2.2, fun h => ⟨(by decide : 12 < 14), rfl, h⟩⟩
theorem mu_12 {F : Nat → Int32} {A : Nat → Nat → Int32} {f : Nat → Int32} : zup (mW F A) 12 (.inl (2, 60, .inl f)) = mW F (va_up A 12 f) := mW_arr rfl
theorem ma_13 {F : Nat → Int32} {A : Nat → Nat → Int32} {P : Nat → (Nat → Int32) → Prop} : zar (mW F A) 13 0 P = P 4 (A 13) := propext ⟨fun h => h.2.2, fun h => ⟨(by decide : 13 < 14), rfl, h⟩⟩
theorem mu_13 {F : Nat → Int32} {A : Nat → Nat → Int32} {f : Nat → Int32} : zup (mW F A) 13 (.inl (0, 4, .inl f)) = mW F (va_up A 13 f) := mW_arr rfl
/-! the class: 226 cells; a plan takes 18 (itself, from, to, departure, arrival, cancelled, order, bases, starts, ends, tasks, its six rows, rules) -/
def cPl (j p : Nat) (f a : Nat → Int32) : zCE := match j with
  | 0 => .inr (3, [.int (f 0), .ref (p + 1), .ref (p + 2), .ref (p + 3), .ref (p + 4), .ref (p + 5), .ref (p + 6), .int (f 7), .ref (p + 7), .ref (p + 8), .ref (p + 9), .ref (p + 10), .ref (p + 17)])
  | 1 => .inl (0, 24, .inl a)
  | 2 => .inl (0, 24, .inl a)
  | 3 => .inl (0, 24, .inl a)
  | 4 => .inl (0, 24, .inl a)
  | 5 => .inl (0, 24, .inl a)
  | 6 => .inl (0, 24, .inl a)
  | 7 => .inl (0, 6, .inl a)
  | 8 => .inl (0, 6, .inl a)
  | 9 => .inl (0, 6, .inl a)
  | 10 => .inl (3, 6, .inr (.inr (.inr (.inr (fun i => if i < 6 then some (p + 11 + i) else none)))))
  | 11 => .inl (0, 24, .inl a)
  | 12 => .inl (0, 24, .inl a)
  | 13 => .inl (0, 24, .inl a)
  | 14 => .inl (0, 24, .inl a)
  | 15 => .inl (0, 24, .inl a)
  | 16 => .inl (0, 24, .inl a)
  | _ => .inl (0, 8, .inl a)
def cSh (q : Nat) (f a : Nat → Int32) : zCE := match q with
  | 0 => .inr (8, [.ref 1, .ref 19, .ref 37, .int (f 3), .ref 55, .ref 201, .ref 211, .ref 212, .ref 217, .ref 220, .ref 222])
  | 55 => .inr (1, [.ref 56, .int (f 1), .int (f 2)])
  | 201 => .inr (6, [.ref 1, .int (f 1), .int (f 2), .ref 202, .ref 203, .ref 204, .ref 205, .int (f 7), .ref 206, .ref 207, .ref 208, .int (f 11), .ref 209, .ref 210])
  | 202 => .inl (0, 24, .inl a)
  | 203 => .inl (1, 24, .inl a)
  | 204 => .inl (0, 24, .inl a)
  | 205 => .inl (0, 24, .inl a)
  | 206 => .inl (0, 24, .inl a)
  | 207 => .inl (0, 24, .inl a)
  | 208 => .inl (0, 24, .inl a)
  | 209 => .inl (0, 168, .inl a)
  | 210 => .inl (0, 168, .inl a)
  | 211 => .inr (2, [.int (f 0), .int (f 1), .int (f 2), .int (f 3)])
  | 212 => .inr (4, [.int (f 0), .ref 213, .ref 214, .ref 215, .ref 216])
  | 213 => .inl (0, 144, .inl a)
  | 214 => .inl (0, 144, .inl a)
  | 215 => .inl (1, 144, .inl a)
  | 216 => .inl (0, 144, .inl a)
  | 217 => .inr (7, [.ref 1, .ref 201, .ref 218, .int (f 3), .ref 219, .int (f 5), .int (f 6)])
  | 218 => .inl (0, 6, .inl a)
  | 219 => .inl (0, 6, .inl a)
  | 220 => .inr (5, [.ref 221, .int (f 1)])
  | 221 => .inl (2, 600, .inl a)
  | 222 => .inr (0, [.ref 223, .int (f 1), .int (f 2), .int (f 3), .ref 224, .ref 225])
  | 223 => .inl (2, 60, .inl a)
  | 224 => .inl (0, 60, .inl a)
  | 225 => .inl (0, 240, .inl a)
  | _ => .inl (4, 8, .inr (.inr (.inr (.inr (fun i => if i < 8 then some (57 + 18 * i) else none)))))
def cShape (q : Nat) (f a : Nat → Int32) : zCE := if q = 0 then cSh 0 f a else if q < 55 then cPl ((q - 1) % 18) (q - (q - 1) % 18) f a else if q < 57 then cSh q f a else if q < 201 then cPl ((q - 57) % 18) (q - (q - 57) % 18) f a else cSh q f a
def cW (F A : Nat → Nat → Int32) : zWd := (226, fun q => cShape q (F q) (A q))
theorem cW_arr {F A : Nat → Nat → Int32} {q : Nat} {f : Nat → Int32} {x : zCE} (h : cShape q (F q) f = x) : zup (cW F A) q x = cW F (va_up A q f) := by
  unfold zup cW
  refine congrArg (Prod.mk 226) (funext fun i => ?_)
  by_cases e : i = q
  · subst e
    simp only [if_true, zvup_s]
    exact h.symm
  · simp only [e, if_false, zvup_n e]
theorem cW_obj {F A : Nat → Nat → Int32} {q : Nat} {f : Nat → Int32} {x : zCE} (h : cShape q f (A q) = x) : zup (cW F A) q x = cW (va_up F q f) A := by
  unfold zup cW
  refine congrArg (Prod.mk 226) (funext fun i => ?_)
  by_cases e : i = q
  · subst e
    simp only [if_true, zvup_s]
    exact h.symm
  · simp only [e, if_false, zvup_n e]
theorem cW_n {F A : Nat → Nat → Int32} : (cW F A).1 = 226 := rfl
/-- where plans stand -/
def isPl (p : Nat) : Prop := p = 1 ∨ p = 19 ∨ p = 37 ∨ ∃ i, i < 8 ∧ p = 57 + 18 * i
theorem cSh_pl {p j : Nat} {f a : Nat → Int32} (h : isPl p) (hj : j < 18) : cShape (p + j) f a = cPl j p f a := by
  unfold cShape
  rcases h with rfl | rfl | rfl | ⟨i, hi, rfl⟩
  · rw [if_neg (by omega), if_pos (by omega), show (1 + j - 1) % 18 = j by omega, show 1 + j - j = 1 by omega]
  · rw [if_neg (by omega), if_pos (by omega), show (19 + j - 1) % 18 = j by omega, show 19 + j - j = 19 by omega]
  · rw [if_neg (by omega), if_pos (by omega), show (37 + j - 1) % 18 = j by omega, show 37 + j - j = 37 by omega]
  · rw [if_neg (by omega), if_neg (by omega), if_neg (by omega), if_pos (by omega), show (57 + 18 * i + j - 57) % 18 = j by omega, show 57 + 18 * i + j - j = 57 + 18 * i by omega]
theorem isPl.lt {p : Nat} (h : isPl p) : 1 ≤ p ∧ p + 18 ≤ 201 := by
  rcases h with rfl | rfl | rfl | ⟨i, hi, rfl⟩ <;> omega
theorem cc_0 {F A : Nat → Nat → Int32} : zcls (cW F A) 0 = 8 := rfl
theorem cg_0_0 {F A : Nat → Nat → Int32} {P : Value → Prop} : zob (cW F A) 0 8 0 P = P (.ref 1) := propext ⟨fun h => h.2.2, fun h => ⟨(by decide : 0 < 226), rfl, h⟩⟩
theorem cg_0_1 {F A : Nat → Nat → Int32} {P : Value → Prop} : zob (cW F A) 0 8 1 P = P (.ref 19) := propext ⟨fun h => h.2.2, fun h => ⟨(by decide : 0 < 226), rfl, h⟩⟩
theorem cg_0_2 {F A : Nat → Nat → Int32} {P : Value → Prop} : zob (cW F A) 0 8 2 P = P (.ref 37) := propext ⟨fun h => h.2.2, fun h => ⟨(by decide : 0 < 226), rfl, h⟩⟩
theorem cg_0_3 {F A : Nat → Nat → Int32} {P : Value → Prop} : zob (cW F A) 0 8 3 P = P (.int (F 0 3)) := propext ⟨fun h => h.2.2, fun h => ⟨(by decide : 0 < 226), rfl, h⟩⟩
theorem cp_0_3 {F A : Nat → Nat → Int32} {x : Int32} {P : zWd → Prop} : zpt (cW F A) 0 8 3 (.int x) P = P (cW (va_up F 0 (upd (F 0) 3 x)) A) := by
  rw [← cW_obj (q := 0) (f := upd (F 0) 3 x) (A := A) rfl]
  exact propext ⟨fun h => h.2.2.2, fun h => ⟨(by decide : 0 < 226), rfl, (by decide : 3 < 11), h⟩⟩
theorem cg_0_4 {F A : Nat → Nat → Int32} {P : Value → Prop} : zob (cW F A) 0 8 4 P = P (.ref 55) := propext ⟨fun h => h.2.2, fun h => ⟨(by decide : 0 < 226), rfl, h⟩⟩
theorem cg_0_5 {F A : Nat → Nat → Int32} {P : Value → Prop} : zob (cW F A) 0 8 5 P = P (.ref 201) := propext ⟨fun h => h.2.2, fun h => ⟨(by decide : 0 < 226), rfl, h⟩⟩
theorem cg_0_6 {F A : Nat → Nat → Int32} {P : Value → Prop} : zob (cW F A) 0 8 6 P = P (.ref 211) := propext ⟨fun h => h.2.2, fun h => ⟨(by decide : 0 < 226), rfl, h⟩⟩
theorem cg_0_7 {F A : Nat → Nat → Int32} {P : Value → Prop} : zob (cW F A) 0 8 7 P = P (.ref 212) := propext ⟨fun h => h.2.2, fun h => ⟨(by decide : 0 < 226), rfl, h⟩⟩
theorem cg_0_8 {F A : Nat → Nat → Int32} {P : Value → Prop} : zob (cW F A) 0 8 8 P = P (.ref 217) := propext ⟨fun h => h.2.2, fun h => ⟨(by decide : 0 < 226), rfl, h⟩⟩
theorem cg_0_9 {F A : Nat → Nat → Int32} {P : Value → Prop} : zob (cW F A) 0 8 9 P = P (.ref 220) := propext ⟨fun h => h.2.2, fun h => ⟨(by decide : 0 < 226), rfl, h⟩⟩
theorem cg_0_10 {F A : Nat → Nat → Int32} {P : Value → Prop} : zob (cW F A) 0 8 10 P = P (.ref 222) := propext ⟨fun h => h.2.2, fun h => ⟨(by decide : 0 < 226), rfl, h⟩⟩
theorem cc_55 {F A : Nat → Nat → Int32} : zcls (cW F A) 55 = 1 := rfl
theorem cg_55_0 {F A : Nat → Nat → Int32} {P : Value → Prop} : zob (cW F A) 55 1 0 P = P (.ref 56) := propext ⟨fun h => h.2.2, fun h => ⟨(by decide : 55 < 226), rfl, h⟩⟩
theorem cg_55_1 {F A : Nat → Nat → Int32} {P : Value → Prop} : zob (cW F A) 55 1 1 P = P (.int (F 55 1)) := propext ⟨fun h => h.2.2, fun h => ⟨(by decide : 55 < 226), rfl, h⟩⟩
theorem cp_55_1 {F A : Nat → Nat → Int32} {x : Int32} {P : zWd → Prop} : zpt (cW F A) 55 1 1 (.int x) P = P (cW (va_up F 55 (upd (F 55) 1 x)) A) := by
  rw [← cW_obj (q := 55) (f := upd (F 55) 1 x) (A := A) rfl]
  exact propext ⟨fun h => h.2.2.2, fun h => ⟨(by decide : 55 < 226), rfl, (by decide : 1 < 3), h⟩⟩
theorem cg_55_2 {F A : Nat → Nat → Int32} {P : Value → Prop} : zob (cW F A) 55 1 2 P = P (.int (F 55 2)) := propext ⟨fun h => h.2.2, fun h => ⟨(by decide : 55 < 226), rfl, h⟩⟩
theorem cp_55_2 {F A : Nat → Nat → Int32} {x : Int32} {P : zWd → Prop} : zpt (cW F A) 55 1 2 (.int x) P = P (cW (va_up F 55 (upd (F 55) 2 x)) A) := by
  rw [← cW_obj (q := 55) (f := upd (F 55) 2 x) (A := A) rfl]
  exact propext ⟨fun h => h.2.2.2, fun h => ⟨(by decide : 55 < 226), rfl, (by decide : 2 < 3), h⟩⟩
theorem cc_201 {F A : Nat → Nat → Int32} : zcls (cW F A) 201 = 6 := rfl
theorem cg_201_0 {F A : Nat → Nat → Int32} {P : Value → Prop} : zob (cW F A) 201 6 0 P = P (.ref 1) := propext ⟨fun h => h.2.2, fun h => ⟨(by decide : 201 < 226), rfl, h⟩⟩
theorem cg_201_1 {F A : Nat → Nat → Int32} {P : Value → Prop} : zob (cW F A) 201 6 1 P = P (.int (F 201 1)) := propext ⟨fun h => h.2.2, fun h => ⟨(by decide : 201 < 226), rfl, h⟩⟩
theorem cp_201_1 {F A : Nat → Nat → Int32} {x : Int32} {P : zWd → Prop} : zpt (cW F A) 201 6 1 (.int x) P = P (cW (va_up F 201 (upd (F 201) 1 x)) A) := by
  rw [← cW_obj (q := 201) (f := upd (F 201) 1 x) (A := A) rfl]
  exact propext ⟨fun h => h.2.2.2, fun h => ⟨(by decide : 201 < 226), rfl, (by decide : 1 < 14), h⟩⟩
theorem cg_201_2 {F A : Nat → Nat → Int32} {P : Value → Prop} : zob (cW F A) 201 6 2 P = P (.int (F 201 2)) := propext ⟨fun h => h.2.2, fun h => ⟨(by decide : 201 < 226), rfl, h⟩⟩
theorem cp_201_2 {F A : Nat → Nat → Int32} {x : Int32} {P : zWd → Prop} : zpt (cW F A) 201 6 2 (.int x) P = P (cW (va_up F 201 (upd (F 201) 2 x)) A) := by
  rw [← cW_obj (q := 201) (f := upd (F 201) 2 x) (A := A) rfl]
  exact propext ⟨fun h => h.2.2.2, fun h => ⟨(by decide : 201 < 226), rfl, (by decide : 2 < 14), h⟩⟩
theorem cg_201_3 {F A : Nat → Nat → Int32} {P : Value → Prop} : zob (cW F A) 201 6 3 P = P (.ref 202) := propext ⟨fun h => h.2.2, fun h => ⟨(by decide : 201 < 226), rfl, h⟩⟩
theorem cg_201_4 {F A : Nat → Nat → Int32} {P : Value → Prop} : zob (cW F A) 201 6 4 P = P (.ref 203) := propext ⟨fun h => h.2.2, fun h => ⟨(by decide : 201 < 226), rfl, h⟩⟩
theorem cg_201_5 {F A : Nat → Nat → Int32} {P : Value → Prop} : zob (cW F A) 201 6 5 P = P (.ref 204) := propext ⟨fun h => h.2.2, fun h => ⟨(by decide : 201 < 226), rfl, h⟩⟩
theorem cg_201_6 {F A : Nat → Nat → Int32} {P : Value → Prop} : zob (cW F A) 201 6 6 P = P (.ref 205) := propext ⟨fun h => h.2.2, fun h => ⟨(by decide : 201 < 226), rfl, h⟩⟩
theorem cg_201_7 {F A : Nat → Nat → Int32} {P : Value → Prop} : zob (cW F A) 201 6 7 P = P (.int (F 201 7)) := propext ⟨fun h => h.2.2, fun h => ⟨(by decide : 201 < 226), rfl, h⟩⟩
theorem cp_201_7 {F A : Nat → Nat → Int32} {x : Int32} {P : zWd → Prop} : zpt (cW F A) 201 6 7 (.int x) P = P (cW (va_up F 201 (upd (F 201) 7 x)) A) := by
  rw [← cW_obj (q := 201) (f := upd (F 201) 7 x) (A := A) rfl]
  exact propext ⟨fun h => h.2.2.2, fun h => ⟨(by decide : 201 < 226), rfl, (by decide : 7 < 14), h⟩⟩
theorem cg_201_8 {F A : Nat → Nat → Int32} {P : Value → Prop} : zob (cW F A) 201 6 8 P = P (.ref 206) := propext ⟨fun h => h.2.2, fun h => ⟨(by decide : 201 < 226), rfl, h⟩⟩
theorem cg_201_9 {F A : Nat → Nat → Int32} {P : Value → Prop} : zob (cW F A) 201 6 9 P = P (.ref 207) := propext ⟨fun h => h.2.2, fun h => ⟨(by decide : 201 < 226), rfl, h⟩⟩
theorem cg_201_10 {F A : Nat → Nat → Int32} {P : Value → Prop} : zob (cW F A) 201 6 10 P = P (.ref 208) := propext ⟨fun h => h.2.2, fun h => ⟨(by decide : 201 < 226), rfl, h⟩⟩
theorem cg_201_11 {F A : Nat → Nat → Int32} {P : Value → Prop} : zob (cW F A) 201 6 11 P = P (.int (F 201 11)) := propext ⟨fun h => h.2.2, fun h => ⟨(by decide : 201 < 226), rfl, h⟩⟩
theorem cp_201_11 {F A : Nat → Nat → Int32} {x : Int32} {P : zWd → Prop} : zpt (cW F A) 201 6 11 (.int x) P = P (cW (va_up F 201 (upd (F 201) 11 x)) A) := by
  rw [← cW_obj (q := 201) (f := upd (F 201) 11 x) (A := A) rfl]
  exact propext ⟨fun h => h.2.2.2, fun h => ⟨(by decide : 201 < 226), rfl, (by decide : 11 < 14), h⟩⟩
theorem cg_201_12 {F A : Nat → Nat → Int32} {P : Value → Prop} : zob (cW F A) 201 6 12 P = P (.ref 209) := propext ⟨fun h => h.2.2, fun h => ⟨(by decide : 201 < 226), rfl, h⟩⟩
theorem cg_201_13 {F A : Nat → Nat → Int32} {P : Value → Prop} : zob (cW F A) 201 6 13 P = P (.ref 210) := propext ⟨fun h => h.2.2, fun h => ⟨(by decide : 201 < 226), rfl, h⟩⟩
theorem cc_211 {F A : Nat → Nat → Int32} : zcls (cW F A) 211 = 2 := rfl
theorem cg_211_0 {F A : Nat → Nat → Int32} {P : Value → Prop} : zob (cW F A) 211 2 0 P = P (.int (F 211 0)) := propext ⟨fun h => h.2.2, fun h => ⟨(by decide : 211 < 226), rfl, h⟩⟩
theorem cp_211_0 {F A : Nat → Nat → Int32} {x : Int32} {P : zWd → Prop} : zpt (cW F A) 211 2 0 (.int x) P = P (cW (va_up F 211 (upd (F 211) 0 x)) A) := by
  rw [← cW_obj (q := 211) (f := upd (F 211) 0 x) (A := A) rfl]
  exact propext ⟨fun h => h.2.2.2, fun h => ⟨(by decide : 211 < 226), rfl, (by decide : 0 < 4), h⟩⟩
theorem cg_211_1 {F A : Nat → Nat → Int32} {P : Value → Prop} : zob (cW F A) 211 2 1 P = P (.int (F 211 1)) := propext ⟨fun h => h.2.2, fun h => ⟨(by decide : 211 < 226), rfl, h⟩⟩
theorem cp_211_1 {F A : Nat → Nat → Int32} {x : Int32} {P : zWd → Prop} : zpt (cW F A) 211 2 1 (.int x) P = P (cW (va_up F 211 (upd (F 211) 1 x)) A) := by
  rw [← cW_obj (q := 211) (f := upd (F 211) 1 x) (A := A) rfl]
  exact propext ⟨fun h => h.2.2.2, fun h => ⟨(by decide : 211 < 226), rfl, (by decide : 1 < 4), h⟩⟩
theorem cg_211_2 {F A : Nat → Nat → Int32} {P : Value → Prop} : zob (cW F A) 211 2 2 P = P (.int (F 211 2)) := propext ⟨fun h => h.2.2, fun h => ⟨(by decide : 211 < 226), rfl, h⟩⟩
theorem cp_211_2 {F A : Nat → Nat → Int32} {x : Int32} {P : zWd → Prop} : zpt (cW F A) 211 2 2 (.int x) P = P (cW (va_up F 211 (upd (F 211) 2 x)) A) := by
  rw [← cW_obj (q := 211) (f := upd (F 211) 2 x) (A := A) rfl]
  exact propext ⟨fun h => h.2.2.2, fun h => ⟨(by decide : 211 < 226), rfl, (by decide : 2 < 4), h⟩⟩
theorem cg_211_3 {F A : Nat → Nat → Int32} {P : Value → Prop} : zob (cW F A) 211 2 3 P = P (.int (F 211 3)) := propext ⟨fun h => h.2.2, fun h => ⟨(by decide : 211 < 226), rfl, h⟩⟩
theorem cp_211_3 {F A : Nat → Nat → Int32} {x : Int32} {P : zWd → Prop} : zpt (cW F A) 211 2 3 (.int x) P = P (cW (va_up F 211 (upd (F 211) 3 x)) A) := by
  rw [← cW_obj (q := 211) (f := upd (F 211) 3 x) (A := A) rfl]
  exact propext ⟨fun h => h.2.2.2, fun h => ⟨(by decide : 211 < 226), rfl, (by decide : 3 < 4), h⟩⟩
theorem cc_212 {F A : Nat → Nat → Int32} : zcls (cW F A) 212 = 4 := rfl
theorem cg_212_0 {F A : Nat → Nat → Int32} {P : Value → Prop} : zob (cW F A) 212 4 0 P = P (.int (F 212 0)) := propext ⟨fun h => h.2.2, fun h => ⟨(by decide : 212 < 226), rfl, h⟩⟩
theorem cp_212_0 {F A : Nat → Nat → Int32} {x : Int32} {P : zWd → Prop} : zpt (cW F A) 212 4 0 (.int x) P = P (cW (va_up F 212 (upd (F 212) 0 x)) A) := by
  rw [← cW_obj (q := 212) (f := upd (F 212) 0 x) (A := A) rfl]
  exact propext ⟨fun h => h.2.2.2, fun h => ⟨(by decide : 212 < 226), rfl, (by decide : 0 < 5), h⟩⟩
theorem cg_212_1 {F A : Nat → Nat → Int32} {P : Value → Prop} : zob (cW F A) 212 4 1 P = P (.ref 213) := propext ⟨fun h => h.2.2, fun h => ⟨(by decide : 212 < 226), rfl, h⟩⟩
theorem cg_212_2 {F A : Nat → Nat → Int32} {P : Value → Prop} : zob (cW F A) 212 4 2 P = P (.ref 214) := propext ⟨fun h => h.2.2, fun h => ⟨(by decide : 212 < 226), rfl, h⟩⟩
theorem cg_212_3 {F A : Nat → Nat → Int32} {P : Value → Prop} : zob (cW F A) 212 4 3 P = P (.ref 215) := propext ⟨fun h => h.2.2, fun h => ⟨(by decide : 212 < 226), rfl, h⟩⟩
theorem cg_212_4 {F A : Nat → Nat → Int32} {P : Value → Prop} : zob (cW F A) 212 4 4 P = P (.ref 216) := propext ⟨fun h => h.2.2, fun h => ⟨(by decide : 212 < 226), rfl, h⟩⟩
theorem cc_217 {F A : Nat → Nat → Int32} : zcls (cW F A) 217 = 7 := rfl
theorem cg_217_0 {F A : Nat → Nat → Int32} {P : Value → Prop} : zob (cW F A) 217 7 0 P = P (.ref 1) := propext ⟨fun h => h.2.2, fun h => ⟨(by decide : 217 < 226), rfl, h⟩⟩
theorem cg_217_1 {F A : Nat → Nat → Int32} {P : Value → Prop} : zob (cW F A) 217 7 1 P = P (.ref 201) := propext ⟨fun h => h.2.2, fun h => ⟨(by decide : 217 < 226), rfl, h⟩⟩
theorem cg_217_2 {F A : Nat → Nat → Int32} {P : Value → Prop} : zob (cW F A) 217 7 2 P = P (.ref 218) := propext ⟨fun h => h.2.2, fun h => ⟨(by decide : 217 < 226), rfl, h⟩⟩
theorem cg_217_3 {F A : Nat → Nat → Int32} {P : Value → Prop} : zob (cW F A) 217 7 3 P = P (.int (F 217 3)) := propext ⟨fun h => h.2.2, fun h => ⟨(by decide : 217 < 226), rfl, h⟩⟩
theorem cp_217_3 {F A : Nat → Nat → Int32} {x : Int32} {P : zWd → Prop} : zpt (cW F A) 217 7 3 (.int x) P = P (cW (va_up F 217 (upd (F 217) 3 x)) A) := by
  rw [← cW_obj (q := 217) (f := upd (F 217) 3 x) (A := A) rfl]
  exact propext ⟨fun h => h.2.2.2, fun h => ⟨(by decide : 217 < 226), rfl, (by decide : 3 < 7), h⟩⟩
theorem cg_217_4 {F A : Nat → Nat → Int32} {P : Value → Prop} : zob (cW F A) 217 7 4 P = P (.ref 219) := propext ⟨fun h => h.2.2, fun h => ⟨(by decide : 217 < 226), rfl, h⟩⟩
theorem cg_217_5 {F A : Nat → Nat → Int32} {P : Value → Prop} : zob (cW F A) 217 7 5 P = P (.int (F 217 5)) := propext ⟨fun h => h.2.2, fun h => ⟨(by decide : 217 < 226), rfl, h⟩⟩
theorem cp_217_5 {F A : Nat → Nat → Int32} {x : Int32} {P : zWd → Prop} : zpt (cW F A) 217 7 5 (.int x) P = P (cW (va_up F 217 (upd (F 217) 5 x)) A) := by
  rw [← cW_obj (q := 217) (f := upd (F 217) 5 x) (A := A) rfl]
  exact propext ⟨fun h => h.2.2.2, fun h => ⟨(by decide : 217 < 226), rfl, (by decide : 5 < 7), h⟩⟩
theorem cg_217_6 {F A : Nat → Nat → Int32} {P : Value → Prop} : zob (cW F A) 217 7 6 P = P (.int (F 217 6)) := propext ⟨fun h => h.2.2, fun h => ⟨(by decide : 217 < 226), rfl, h⟩⟩
theorem cp_217_6 {F A : Nat → Nat → Int32} {x : Int32} {P : zWd → Prop} : zpt (cW F A) 217 7 6 (.int x) P = P (cW (va_up F 217 (upd (F 217) 6 x)) A) := by
  rw [← cW_obj (q := 217) (f := upd (F 217) 6 x) (A := A) rfl]
  exact propext ⟨fun h => h.2.2.2, fun h => ⟨(by decide : 217 < 226), rfl, (by decide : 6 < 7), h⟩⟩
theorem cc_220 {F A : Nat → Nat → Int32} : zcls (cW F A) 220 = 5 := rfl
theorem cg_220_0 {F A : Nat → Nat → Int32} {P : Value → Prop} : zob (cW F A) 220 5 0 P = P (.ref 221) := propext ⟨fun h => h.2.2, fun h => ⟨(by decide : 220 < 226), rfl, h⟩⟩
theorem cg_220_1 {F A : Nat → Nat → Int32} {P : Value → Prop} : zob (cW F A) 220 5 1 P = P (.int (F 220 1)) := propext ⟨fun h => h.2.2, fun h => ⟨(by decide : 220 < 226), rfl, h⟩⟩
theorem cp_220_1 {F A : Nat → Nat → Int32} {x : Int32} {P : zWd → Prop} : zpt (cW F A) 220 5 1 (.int x) P = P (cW (va_up F 220 (upd (F 220) 1 x)) A) := by
  rw [← cW_obj (q := 220) (f := upd (F 220) 1 x) (A := A) rfl]
  exact propext ⟨fun h => h.2.2.2, fun h => ⟨(by decide : 220 < 226), rfl, (by decide : 1 < 2), h⟩⟩
theorem cc_222 {F A : Nat → Nat → Int32} : zcls (cW F A) 222 = 0 := rfl
theorem cg_222_0 {F A : Nat → Nat → Int32} {P : Value → Prop} : zob (cW F A) 222 0 0 P = P (.ref 223) := propext ⟨fun h => h.2.2, fun h => ⟨(by decide : 222 < 226), rfl, h⟩⟩
theorem cg_222_1 {F A : Nat → Nat → Int32} {P : Value → Prop} : zob (cW F A) 222 0 1 P = P (.int (F 222 1)) := propext ⟨fun h => h.2.2, fun h => ⟨(by decide : 222 < 226), rfl, h⟩⟩
theorem cp_222_1 {F A : Nat → Nat → Int32} {x : Int32} {P : zWd → Prop} : zpt (cW F A) 222 0 1 (.int x) P = P (cW (va_up F 222 (upd (F 222) 1 x)) A) := by
  rw [← cW_obj (q := 222) (f := upd (F 222) 1 x) (A := A) rfl]
  exact propext ⟨fun h => h.2.2.2, fun h => ⟨(by decide : 222 < 226), rfl, (by decide : 1 < 6), h⟩⟩
theorem cg_222_2 {F A : Nat → Nat → Int32} {P : Value → Prop} : zob (cW F A) 222 0 2 P = P (.int (F 222 2)) := propext ⟨fun h => h.2.2, fun h => ⟨(by decide : 222 < 226), rfl, h⟩⟩
theorem cp_222_2 {F A : Nat → Nat → Int32} {x : Int32} {P : zWd → Prop} : zpt (cW F A) 222 0 2 (.int x) P = P (cW (va_up F 222 (upd (F 222) 2 x)) A) := by
  rw [← cW_obj (q := 222) (f := upd (F 222) 2 x) (A := A) rfl]
  exact propext ⟨fun h => h.2.2.2, fun h => ⟨(by decide : 222 < 226), rfl, (by decide : 2 < 6), h⟩⟩
theorem cg_222_3 {F A : Nat → Nat → Int32} {P : Value → Prop} : zob (cW F A) 222 0 3 P = P (.int (F 222 3)) := propext ⟨fun h => h.2.2, fun h => ⟨(by decide : 222 < 226), rfl, h⟩⟩
theorem cp_222_3 {F A : Nat → Nat → Int32} {x : Int32} {P : zWd → Prop} : zpt (cW F A) 222 0 3 (.int x) P = P (cW (va_up F 222 (upd (F 222) 3 x)) A) := by
  rw [← cW_obj (q := 222) (f := upd (F 222) 3 x) (A := A) rfl]
  exact propext ⟨fun h => h.2.2.2, fun h => ⟨(by decide : 222 < 226), rfl, (by decide : 3 < 6), h⟩⟩
theorem cg_222_4 {F A : Nat → Nat → Int32} {P : Value → Prop} : zob (cW F A) 222 0 4 P = P (.ref 224) := propext ⟨fun h => h.2.2, fun h => ⟨(by decide : 222 < 226), rfl, h⟩⟩
theorem cg_222_5 {F A : Nat → Nat → Int32} {P : Value → Prop} : zob (cW F A) 222 0 5 P = P (.ref 225) := propext ⟨fun h => h.2.2, fun h => ⟨(by decide : 222 < 226), rfl, h⟩⟩
theorem ca_202 {F A : Nat → Nat → Int32} {P : Nat → (Nat → Int32) → Prop} : zar (cW F A) 202 0 P = P 24 (A 202) := propext ⟨fun h => h.2.2, fun h => ⟨(by decide : 202 < 226), rfl, h⟩⟩
theorem cu_202 {F A : Nat → Nat → Int32} {f : Nat → Int32} : zup (cW F A) 202 (.inl (0, 24, .inl f)) = cW F (va_up A 202 f) := cW_arr rfl
theorem ca_203 {F A : Nat → Nat → Int32} {P : Nat → (Nat → Int32) → Prop} : zar (cW F A) 203 1 P = P 24 (A 203) := propext ⟨fun h => h.2.2, fun h => ⟨(by decide : 203 < 226), rfl, h⟩⟩
theorem cu_203 {F A : Nat → Nat → Int32} {f : Nat → Int32} : zup (cW F A) 203 (.inl (1, 24, .inl f)) = cW F (va_up A 203 f) := cW_arr rfl
theorem ca_204 {F A : Nat → Nat → Int32} {P : Nat → (Nat → Int32) → Prop} : zar (cW F A) 204 0 P = P 24 (A 204) := propext ⟨fun h => h.2.2, fun h => ⟨(by decide : 204 < 226), rfl, h⟩⟩
theorem cu_204 {F A : Nat → Nat → Int32} {f : Nat → Int32} : zup (cW F A) 204 (.inl (0, 24, .inl f)) = cW F (va_up A 204 f) := cW_arr rfl
theorem ca_205 {F A : Nat → Nat → Int32} {P : Nat → (Nat → Int32) → Prop} : zar (cW F A) 205 0 P = P 24 (A 205) := propext ⟨fun h => h.2.2, fun h => ⟨(by decide : 205 < 226), rfl, h⟩⟩
theorem cu_205 {F A : Nat → Nat → Int32} {f : Nat → Int32} : zup (cW F A) 205 (.inl (0, 24, .inl f)) = cW F (va_up A 205 f) := cW_arr rfl
theorem ca_206 {F A : Nat → Nat → Int32} {P : Nat → (Nat → Int32) → Prop} : zar (cW F A) 206 0 P = P 24 (A 206) := propext ⟨fun h => h.2.2, fun h => ⟨(by decide : 206 < 226), rfl, h⟩⟩
theorem cu_206 {F A : Nat → Nat → Int32} {f : Nat → Int32} : zup (cW F A) 206 (.inl (0, 24, .inl f)) = cW F (va_up A 206 f) := cW_arr rfl
theorem ca_207 {F A : Nat → Nat → Int32} {P : Nat → (Nat → Int32) → Prop} : zar (cW F A) 207 0 P = P 24 (A 207) := propext ⟨fun h => h.2.2, fun h => ⟨(by decide : 207 < 226), rfl, h⟩⟩
theorem cu_207 {F A : Nat → Nat → Int32} {f : Nat → Int32} : zup (cW F A) 207 (.inl (0, 24, .inl f)) = cW F (va_up A 207 f) := cW_arr rfl
theorem ca_208 {F A : Nat → Nat → Int32} {P : Nat → (Nat → Int32) → Prop} : zar (cW F A) 208 0 P = P 24 (A 208) := propext ⟨fun h => h.2.2, fun h => ⟨(by decide : 208 < 226), rfl, h⟩⟩
theorem cu_208 {F A : Nat → Nat → Int32} {f : Nat → Int32} : zup (cW F A) 208 (.inl (0, 24, .inl f)) = cW F (va_up A 208 f) := cW_arr rfl
theorem ca_209 {F A : Nat → Nat → Int32} {P : Nat → (Nat → Int32) → Prop} : zar (cW F A) 209 0 P = P 168 (A 209) := propext ⟨fun h => h.2.2, fun h => ⟨(by decide : 209 < 226), rfl, h⟩⟩
theorem cu_209 {F A : Nat → Nat → Int32} {f : Nat → Int32} : zup (cW F A) 209 (.inl (0, 168, .inl f)) = cW F (va_up A 209 f) := cW_arr rfl
theorem ca_210 {F A : Nat → Nat → Int32} {P : Nat → (Nat → Int32) → Prop} : zar (cW F A) 210 0 P = P 168 (A 210) := propext ⟨fun h => h.2.2, fun h => ⟨(by decide : 210 < 226), rfl, h⟩⟩
theorem cu_210 {F A : Nat → Nat → Int32} {f : Nat → Int32} : zup (cW F A) 210 (.inl (0, 168, .inl f)) = cW F (va_up A 210 f) := cW_arr rfl
theorem ca_213 {F A : Nat → Nat → Int32} {P : Nat → (Nat → Int32) → Prop} : zar (cW F A) 213 0 P = P 144 (A 213) := propext ⟨fun h => h.2.2, fun h => ⟨(by decide : 213 < 226), rfl, h⟩⟩
theorem cu_213 {F A : Nat → Nat → Int32} {f : Nat → Int32} : zup (cW F A) 213 (.inl (0, 144, .inl f)) = cW F (va_up A 213 f) := cW_arr rfl
theorem ca_214 {F A : Nat → Nat → Int32} {P : Nat → (Nat → Int32) → Prop} : zar (cW F A) 214 0 P = P 144 (A 214) := propext ⟨fun h => h.2.2, fun h => ⟨(by decide : 214 < 226), rfl, h⟩⟩
theorem cu_214 {F A : Nat → Nat → Int32} {f : Nat → Int32} : zup (cW F A) 214 (.inl (0, 144, .inl f)) = cW F (va_up A 214 f) := cW_arr rfl
theorem ca_215 {F A : Nat → Nat → Int32} {P : Nat → (Nat → Int32) → Prop} : zar (cW F A) 215 1 P = P 144 (A 215) := propext ⟨fun h => h.2.2, fun h => ⟨(by decide : 215 < 226), rfl, h⟩⟩
theorem cu_215 {F A : Nat → Nat → Int32} {f : Nat → Int32} : zup (cW F A) 215 (.inl (1, 144, .inl f)) = cW F (va_up A 215 f) := cW_arr rfl
theorem ca_216 {F A : Nat → Nat → Int32} {P : Nat → (Nat → Int32) → Prop} : zar (cW F A) 216 0 P = P 144 (A 216) := propext ⟨fun h => h.2.2, fun h => ⟨(by decide : 216 < 226), rfl, h⟩⟩
theorem cu_216 {F A : Nat → Nat → Int32} {f : Nat → Int32} : zup (cW F A) 216 (.inl (0, 144, .inl f)) = cW F (va_up A 216 f) := cW_arr rfl
theorem ca_218 {F A : Nat → Nat → Int32} {P : Nat → (Nat → Int32) → Prop} : zar (cW F A) 218 0 P = P 6 (A 218) := propext ⟨fun h => h.2.2, fun h => ⟨(by decide : 218 < 226), rfl, h⟩⟩
theorem cu_218 {F A : Nat → Nat → Int32} {f : Nat → Int32} : zup (cW F A) 218 (.inl (0, 6, .inl f)) = cW F (va_up A 218 f) := cW_arr rfl
theorem ca_219 {F A : Nat → Nat → Int32} {P : Nat → (Nat → Int32) → Prop} : zar (cW F A) 219 0 P = P 6 (A 219) := propext ⟨fun h => h.2.2, fun h => ⟨(by decide : 219 < 226), rfl, h⟩⟩
theorem cu_219 {F A : Nat → Nat → Int32} {f : Nat → Int32} : zup (cW F A) 219 (.inl (0, 6, .inl f)) = cW F (va_up A 219 f) := cW_arr rfl
theorem ca_221 {F A : Nat → Nat → Int32} {P : Nat → (Nat → Int32) → Prop} : zar (cW F A) 221 2 P = P 600 (A 221) := propext ⟨fun h => h.2.2, fun h => ⟨(by decide : 221 < 226), rfl, h⟩⟩
theorem cu_221 {F A : Nat → Nat → Int32} {f : Nat → Int32} : zup (cW F A) 221 (.inl (2, 600, .inl f)) = cW F (va_up A 221 f) := cW_arr rfl
theorem ca_223 {F A : Nat → Nat → Int32} {P : Nat → (Nat → Int32) → Prop} : zar (cW F A) 223 2 P = P 60 (A 223) := propext ⟨fun h => h.2.2, fun h => ⟨(by decide : 223 < 226), rfl, h⟩⟩
theorem cu_223 {F A : Nat → Nat → Int32} {f : Nat → Int32} : zup (cW F A) 223 (.inl (2, 60, .inl f)) = cW F (va_up A 223 f) := cW_arr rfl
theorem ca_224 {F A : Nat → Nat → Int32} {P : Nat → (Nat → Int32) → Prop} : zar (cW F A) 224 0 P = P 60 (A 224) := propext ⟨fun h => h.2.2, fun h => ⟨(by decide : 224 < 226), rfl, h⟩⟩
theorem cu_224 {F A : Nat → Nat → Int32} {f : Nat → Int32} : zup (cW F A) 224 (.inl (0, 60, .inl f)) = cW F (va_up A 224 f) := cW_arr rfl
theorem ca_225 {F A : Nat → Nat → Int32} {P : Nat → (Nat → Int32) → Prop} : zar (cW F A) 225 0 P = P 240 (A 225) := propext ⟨fun h => h.2.2, fun h => ⟨(by decide : 225 < 226), rfl, h⟩⟩
theorem cu_225 {F A : Nat → Nat → Int32} {f : Nat → Int32} : zup (cW F A) 225 (.inl (0, 240, .inl f)) = cW F (va_up A 225 f) := cW_arr rfl
theorem cc_1 {F A : Nat → Nat → Int32} : zcls (cW F A) 1 = 3 := rfl
theorem cg_1_0 {F A : Nat → Nat → Int32} {P : Value → Prop} : zob (cW F A) 1 3 0 P = P (.int (F 1 0)) := propext ⟨fun h => h.2.2, fun h => ⟨(by decide : 1 < 226), rfl, h⟩⟩
theorem cp_1_0 {F A : Nat → Nat → Int32} {x : Int32} {P : zWd → Prop} : zpt (cW F A) 1 3 0 (.int x) P = P (cW (va_up F 1 (upd (F 1) 0 x)) A) := by
  rw [← cW_obj (q := 1) (f := upd (F 1) 0 x) (A := A) rfl]
  exact propext ⟨fun h => h.2.2.2, fun h => ⟨(by decide : 1 < 226), rfl, (by decide : 0 < 13), h⟩⟩
theorem cg_1_1 {F A : Nat → Nat → Int32} {P : Value → Prop} : zob (cW F A) 1 3 1 P = P (.ref 2) := propext ⟨fun h => h.2.2, fun h => ⟨(by decide : 1 < 226), rfl, h⟩⟩
theorem cg_1_2 {F A : Nat → Nat → Int32} {P : Value → Prop} : zob (cW F A) 1 3 2 P = P (.ref 3) := propext ⟨fun h => h.2.2, fun h => ⟨(by decide : 1 < 226), rfl, h⟩⟩
theorem cg_1_3 {F A : Nat → Nat → Int32} {P : Value → Prop} : zob (cW F A) 1 3 3 P = P (.ref 4) := propext ⟨fun h => h.2.2, fun h => ⟨(by decide : 1 < 226), rfl, h⟩⟩
theorem cg_1_4 {F A : Nat → Nat → Int32} {P : Value → Prop} : zob (cW F A) 1 3 4 P = P (.ref 5) := propext ⟨fun h => h.2.2, fun h => ⟨(by decide : 1 < 226), rfl, h⟩⟩
theorem cg_1_5 {F A : Nat → Nat → Int32} {P : Value → Prop} : zob (cW F A) 1 3 5 P = P (.ref 6) := propext ⟨fun h => h.2.2, fun h => ⟨(by decide : 1 < 226), rfl, h⟩⟩
theorem cg_1_6 {F A : Nat → Nat → Int32} {P : Value → Prop} : zob (cW F A) 1 3 6 P = P (.ref 7) := propext ⟨fun h => h.2.2, fun h => ⟨(by decide : 1 < 226), rfl, h⟩⟩
theorem cg_1_7 {F A : Nat → Nat → Int32} {P : Value → Prop} : zob (cW F A) 1 3 7 P = P (.int (F 1 7)) := propext ⟨fun h => h.2.2, fun h => ⟨(by decide : 1 < 226), rfl, h⟩⟩
theorem cp_1_7 {F A : Nat → Nat → Int32} {x : Int32} {P : zWd → Prop} : zpt (cW F A) 1 3 7 (.int x) P = P (cW (va_up F 1 (upd (F 1) 7 x)) A) := by
  rw [← cW_obj (q := 1) (f := upd (F 1) 7 x) (A := A) rfl]
  exact propext ⟨fun h => h.2.2.2, fun h => ⟨(by decide : 1 < 226), rfl, (by decide : 7 < 13), h⟩⟩
theorem cg_1_8 {F A : Nat → Nat → Int32} {P : Value → Prop} : zob (cW F A) 1 3 8 P = P (.ref 8) := propext ⟨fun h => h.2.2, fun h => ⟨(by decide : 1 < 226), rfl, h⟩⟩
theorem cg_1_9 {F A : Nat → Nat → Int32} {P : Value → Prop} : zob (cW F A) 1 3 9 P = P (.ref 9) := propext ⟨fun h => h.2.2, fun h => ⟨(by decide : 1 < 226), rfl, h⟩⟩
theorem cg_1_10 {F A : Nat → Nat → Int32} {P : Value → Prop} : zob (cW F A) 1 3 10 P = P (.ref 10) := propext ⟨fun h => h.2.2, fun h => ⟨(by decide : 1 < 226), rfl, h⟩⟩
theorem cg_1_11 {F A : Nat → Nat → Int32} {P : Value → Prop} : zob (cW F A) 1 3 11 P = P (.ref 11) := propext ⟨fun h => h.2.2, fun h => ⟨(by decide : 1 < 226), rfl, h⟩⟩
theorem cg_1_12 {F A : Nat → Nat → Int32} {P : Value → Prop} : zob (cW F A) 1 3 12 P = P (.ref 18) := propext ⟨fun h => h.2.2, fun h => ⟨(by decide : 1 < 226), rfl, h⟩⟩
theorem ca_2 {F A : Nat → Nat → Int32} {P : Nat → (Nat → Int32) → Prop} : zar (cW F A) 2 0 P = P 24 (A 2) := propext ⟨fun h => h.2.2, fun h => ⟨(by decide : 2 < 226), rfl, h⟩⟩
theorem cu_2 {F A : Nat → Nat → Int32} {f : Nat → Int32} : zup (cW F A) 2 (.inl (0, 24, .inl f)) = cW F (va_up A 2 f) := cW_arr rfl
theorem ca_3 {F A : Nat → Nat → Int32} {P : Nat → (Nat → Int32) → Prop} : zar (cW F A) 3 0 P = P 24 (A 3) := propext ⟨fun h => h.2.2, fun h => ⟨(by decide : 3 < 226), rfl, h⟩⟩
theorem cu_3 {F A : Nat → Nat → Int32} {f : Nat → Int32} : zup (cW F A) 3 (.inl (0, 24, .inl f)) = cW F (va_up A 3 f) := cW_arr rfl
theorem ca_4 {F A : Nat → Nat → Int32} {P : Nat → (Nat → Int32) → Prop} : zar (cW F A) 4 0 P = P 24 (A 4) := propext ⟨fun h => h.2.2, fun h => ⟨(by decide : 4 < 226), rfl, h⟩⟩
theorem cu_4 {F A : Nat → Nat → Int32} {f : Nat → Int32} : zup (cW F A) 4 (.inl (0, 24, .inl f)) = cW F (va_up A 4 f) := cW_arr rfl
theorem ca_5 {F A : Nat → Nat → Int32} {P : Nat → (Nat → Int32) → Prop} : zar (cW F A) 5 0 P = P 24 (A 5) := propext ⟨fun h => h.2.2, fun h => ⟨(by decide : 5 < 226), rfl, h⟩⟩
theorem cu_5 {F A : Nat → Nat → Int32} {f : Nat → Int32} : zup (cW F A) 5 (.inl (0, 24, .inl f)) = cW F (va_up A 5 f) := cW_arr rfl
theorem ca_6 {F A : Nat → Nat → Int32} {P : Nat → (Nat → Int32) → Prop} : zar (cW F A) 6 0 P = P 24 (A 6) := propext ⟨fun h => h.2.2, fun h => ⟨(by decide : 6 < 226), rfl, h⟩⟩
theorem cu_6 {F A : Nat → Nat → Int32} {f : Nat → Int32} : zup (cW F A) 6 (.inl (0, 24, .inl f)) = cW F (va_up A 6 f) := cW_arr rfl
theorem ca_7 {F A : Nat → Nat → Int32} {P : Nat → (Nat → Int32) → Prop} : zar (cW F A) 7 0 P = P 24 (A 7) := propext ⟨fun h => h.2.2, fun h => ⟨(by decide : 7 < 226), rfl, h⟩⟩
theorem cu_7 {F A : Nat → Nat → Int32} {f : Nat → Int32} : zup (cW F A) 7 (.inl (0, 24, .inl f)) = cW F (va_up A 7 f) := cW_arr rfl
theorem ca_8 {F A : Nat → Nat → Int32} {P : Nat → (Nat → Int32) → Prop} : zar (cW F A) 8 0 P = P 6 (A 8) := propext ⟨fun h => h.2.2, fun h => ⟨(by decide : 8 < 226), rfl, h⟩⟩
theorem cu_8 {F A : Nat → Nat → Int32} {f : Nat → Int32} : zup (cW F A) 8 (.inl (0, 6, .inl f)) = cW F (va_up A 8 f) := cW_arr rfl
theorem ca_9 {F A : Nat → Nat → Int32} {P : Nat → (Nat → Int32) → Prop} : zar (cW F A) 9 0 P = P 6 (A 9) := propext ⟨fun h => h.2.2, fun h => ⟨(by decide : 9 < 226), rfl, h⟩⟩
theorem cu_9 {F A : Nat → Nat → Int32} {f : Nat → Int32} : zup (cW F A) 9 (.inl (0, 6, .inl f)) = cW F (va_up A 9 f) := cW_arr rfl
theorem ca_10 {F A : Nat → Nat → Int32} {P : Nat → (Nat → Int32) → Prop} : zar (cW F A) 10 0 P = P 6 (A 10) := propext ⟨fun h => h.2.2, fun h => ⟨(by decide : 10 < 226), rfl, h⟩⟩
theorem cu_10 {F A : Nat → Nat → Int32} {f : Nat → Int32} : zup (cW F A) 10 (.inl (0, 6, .inl f)) = cW F (va_up A 10 f) := cW_arr rfl
theorem ca_12 {F A : Nat → Nat → Int32} {P : Nat → (Nat → Int32) → Prop} : zar (cW F A) 12 0 P = P 24 (A 12) := propext ⟨fun h => h.2.2, fun h => ⟨(by decide : 12 < 226), rfl, h⟩⟩
theorem cu_12 {F A : Nat → Nat → Int32} {f : Nat → Int32} : zup (cW F A) 12 (.inl (0, 24, .inl f)) = cW F (va_up A 12 f) := cW_arr rfl
theorem ca_13 {F A : Nat → Nat → Int32} {P : Nat → (Nat → Int32) → Prop} : zar (cW F A) 13 0 P = P 24 (A 13) := propext ⟨fun h => h.2.2, fun h => ⟨(by decide : 13 < 226), rfl, h⟩⟩
theorem cu_13 {F A : Nat → Nat → Int32} {f : Nat → Int32} : zup (cW F A) 13 (.inl (0, 24, .inl f)) = cW F (va_up A 13 f) := cW_arr rfl
theorem ca_14 {F A : Nat → Nat → Int32} {P : Nat → (Nat → Int32) → Prop} : zar (cW F A) 14 0 P = P 24 (A 14) := propext ⟨fun h => h.2.2, fun h => ⟨(by decide : 14 < 226), rfl, h⟩⟩
theorem cu_14 {F A : Nat → Nat → Int32} {f : Nat → Int32} : zup (cW F A) 14 (.inl (0, 24, .inl f)) = cW F (va_up A 14 f) := cW_arr rfl
theorem ca_15 {F A : Nat → Nat → Int32} {P : Nat → (Nat → Int32) → Prop} : zar (cW F A) 15 0 P = P 24 (A 15) := propext ⟨fun h => h.2.2, fun h => ⟨(by decide : 15 < 226), rfl, h⟩⟩
theorem cu_15 {F A : Nat → Nat → Int32} {f : Nat → Int32} : zup (cW F A) 15 (.inl (0, 24, .inl f)) = cW F (va_up A 15 f) := cW_arr rfl
theorem ca_16 {F A : Nat → Nat → Int32} {P : Nat → (Nat → Int32) → Prop} : zar (cW F A) 16 0 P = P 24 (A 16) := propext ⟨fun h => h.2.2, fun h => ⟨(by decide : 16 < 226), rfl, h⟩⟩
theorem cu_16 {F A : Nat → Nat → Int32} {f : Nat → Int32} : zup (cW F A) 16 (.inl (0, 24, .inl f)) = cW F (va_up A 16 f) := cW_arr rfl
theorem ca_17 {F A : Nat → Nat → Int32} {P : Nat → (Nat → Int32) → Prop} : zar (cW F A) 17 0 P = P 24 (A 17) := propext ⟨fun h => h.2.2, fun h => ⟨(by decide : 17 < 226), rfl, h⟩⟩
theorem cu_17 {F A : Nat → Nat → Int32} {f : Nat → Int32} : zup (cW F A) 17 (.inl (0, 24, .inl f)) = cW F (va_up A 17 f) := cW_arr rfl
theorem ca_18 {F A : Nat → Nat → Int32} {P : Nat → (Nat → Int32) → Prop} : zar (cW F A) 18 0 P = P 8 (A 18) := propext ⟨fun h => h.2.2, fun h => ⟨(by decide : 18 < 226), rfl, h⟩⟩
theorem cu_18 {F A : Nat → Nat → Int32} {f : Nat → Int32} : zup (cW F A) 18 (.inl (0, 8, .inl f)) = cW F (va_up A 18 f) := cW_arr rfl
theorem cq_11 {F A : Nat → Nat → Int32} {P : Nat → (Nat → Option Nat) → Prop} : zaq (cW F A) 11 3 P = P 6 (fun i => if i < 6 then some (12 + i) else none) := propext ⟨fun h => h.2.2, fun h => ⟨(by decide : 11 < 226), rfl, h⟩⟩
/-- a row of tasks, by the crew -/
theorem ct_a {F A : Nat → Nat → Int32} {c : Nat} {P : Nat → (Nat → Int32) → Prop} (h : c < 6) : zar (cW F A) (12 + c) 0 P = P 24 (A (12 + c)) := by
  rcases (show c = 0 ∨ c = 1 ∨ c = 2 ∨ c = 3 ∨ c = 4 ∨ c = 5 by omega) with rfl | rfl | rfl | rfl | rfl | rfl
  · exact ca_12
  · exact ca_13
  · exact ca_14
  · exact ca_15
  · exact ca_16
  · exact ca_17
theorem ct_u {F A : Nat → Nat → Int32} {c : Nat} {f : Nat → Int32} (h : c < 6) : zup (cW F A) (12 + c) (.inl (0, 24, .inl f)) = cW F (va_up A (12 + c) f) := by
  rcases (show c = 0 ∨ c = 1 ∨ c = 2 ∨ c = 3 ∨ c = 4 ∨ c = 5 by omega) with rfl | rfl | rfl | rfl | rfl | rfl
  · exact cu_12
  · exact cu_13
  · exact cu_14
  · exact cu_15
  · exact cu_16
  · exact cu_17
