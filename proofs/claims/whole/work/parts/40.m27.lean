/-! save, restore, undo -/
/-- the plan that was saved, if any -/
def MV (F : Nat → Int32) (A : Nat → Nat → Int32) (S : Option Pl) : Prop := F 2 = Int32.ofInt (zb S.isSome) ∧ ∀ Q, S = some Q → Q.ok ∧ MS (A 2) Q
def Pl.aRest (P : Pl) (S : Option Pl) : Int × Pl := match S with
  | some Q => ((Q.nl : Int), Q)
  | none => (-2, P)
section M27
variable {d w0n rc0 rs0 : Nat} {F : Nat → Int32} {A : Nat → Nat → Int32} {P : Pl} {K : Option Value → zWd → Prop} {L : List Nat} {b : Int} {a i w : Int} {H : List Pl} {R : Nat → List Nat} {S : Option Pl}
theorem MV.c {F' : Nat → Int32} {A' : Nat → Nat → Int32} (hV : MV F A S) (h : cEq F A F' A') : MV F' A' S := ⟨(h.1 2 (by omega)).trans hV.1, by rw [h.2 2 (by omega)]; exact hV.2⟩
set_option maxRecDepth 100000 in
theorem q_save (hS : MS (A 1) P) (hP : P.ok) (h : ∀ F' A', (∀ k, k ≠ 2 → F' k = F k) → (∀ p, p ≠ 2 → A' p = A p) → MV F' A' (some P) → K (some (.int (Int32.ofInt P.nl))) (mW F' A')) : MOk (d + 2) mX9_save [.ref 0] (mW F A) K := by
  have e0 : A 1 0 = Int32.ofInt P.nl := hS.1
  refine MOk.body pl9 rfl (by simp [Value.category]) (Nat.le_of_ble_eq_true rfl) ?_
  refine zrun_ok (cut := []) 200 _ _ _ _ ?_
  simp (disch := omega) only [zstp, zf0, zf1, zf2, zf3, zgi, zgr, zs1, zs2, zsr, ztg, zcall, zk_ap, zcpy, zcpS_9, zcpS_3, zcpS_7, List.getElem?_cons_zero, List.getElem?_cons_succ, List.set_cons_zero, List.set_cons_succ, List.length_cons, List.length_nil, List.drop_succ_cons, List.drop_zero, List.take_succ_cons, List.take_zero, List.reverse_cons, List.reverse_nil, List.nil_append, List.cons_append, List.append_nil, Option.toList_some, Option.toList_none, List.map_cons, List.map_nil, List.sum_cons, List.sum_nil, List.mem_cons, List.not_mem_nil, List.replicate_succ, List.replicate_zero, Value.category, if_true, if_false, and_true, true_and, or_false, false_or, false_and, and_false, or_true, true_or, not_true_eq_false, not_false_eq_true, reduceIte, zif_true, zif_false, zif_not, Fin.isValue, Int.cast_ofNat_Int, znar_b0, znar_b1, Nat.reduceAdd, Nat.reduceSub, Nat.reduceMul, Nat.reduceEqDiff, Nat.reduceLT, Nat.reduceLeDiff, Int.reduceNeg, Int.reduceAdd, Int.reduceSub, Int.reduceToNat, Int.reduceLE, Int.reduceLT, Int.reduceEq, eq_self, zi_int, zi_toInt, zi_0, zi_ne0, Int.toNat_natCast, zbz_eq, zbz_ne, decide_eq_false_iff_not, decide_eq_true_eq, Nat.zero_mod, Int.zero_add, Int.add_zero, zi_add, zi_sub, zi_mul, Nat.zero_add, zfit_int, znar_int, mg_0, mg_1, mg_2, mp_2, mg_3, mg_4, mp_4, mg_5, mg_6, mp_6, mg_7, mg_8, mp_8, mg_9, mp_9, mg_10, mg_11, mp_11, mg_12, mp_12, mg_13, mp_13, mg_14, mp_14, mg_15, mp_15, mg_16, mg_17, mg_18, mp_18, mg_19, mg_20, mg_21, mp_21, mg_22, mp_22, mg_23, mg_24, mp_24, mg_25, mg_26, mp_26, mg_27, mp_27, mg_28, mp_28, mg_29, ma_1, mu_1, ma_2, mu_2, ma_3, mu_3, ma_4, mu_4, ma_5, mu_5, ma_6, mu_6, ma_7, mu_7, ma_8, mu_8, ma_9, mu_9, ma_10, mu_10, ma_11, mu_11, ma_12, mu_12, ma_13, mu_13, mW_n, mW_c, zi_clamp, zbr_lt, zbr_gt, zbr_ge, zbr_le, zbr_eq, zbr_ne, zvup_s, zvup_n, zvup_vup, zup_s, zup_n, zupd_upd,  oX9_save, rX9_save, nX9_save, zrun_at (M := mX9_save) dX9_save_0 rfl (cut := []) (by decide), zrun_at (M := mX9_save) dX9_save_1 rfl (cut := []) (by decide), f_9_9, zrun_at (M := mX9_save) dX9_save_4 rfl (cut := []) (by decide), zrun_at (M := mX9_save) dX9_save_5 rfl (cut := []) (by decide), zrun_at (M := mX9_save) dX9_save_6 rfl (cut := []) (by decide), f_9_13, zrun_at (M := mX9_save) dX9_save_9 rfl (cut := []) (by decide), zrun_at (M := mX9_save) dX9_save_10 rfl (cut := []) (by decide), zrun_at (M := mX9_save) dX9_save_13 rfl (cut := []) (by decide), b_9_53, zrun_at (M := mX9_save) dX9_save_16 rfl (cut := []) (by decide), zrun_at (M := mX9_save) dX9_save_17 rfl (cut := []) (by decide), zrun_at (M := mX9_save) dX9_save_18 rfl (cut := []) (by decide), f_9_363, ft_9_2, fd_9_2, zrun_at (M := mX9_save) dX9_save_21 rfl (cut := []) (by decide), zrun_at (M := mX9_save) dX9_save_22 rfl (cut := []) (by decide), zrun_at (M := mX9_save) dX9_save_25 rfl (cut := []) (by decide), zrun_at (M := mX9_save) dX9_save_26 rfl (cut := []) (by decide), zrun_at (M := mX9_save) dX9_save_27 rfl (cut := []) (by decide), e0, zi_nneg]
  refine ⟨?_, h _ _ (fun k hk => zup_n hk) (fun p hp => zvup_n hp) ⟨zup_s, fun Q hQ => ?_⟩⟩
  · rw [zfit_b1]; trivial
  · cases hQ
    refine ⟨hP, ?_⟩
    rw [zvup_s]
    refine hS.cg hP (fun j hj => ?_)
    rw [pk_cpy_in (by omega) (by omega)]
    congr 1
    omega
set_option maxRecDepth 100000 in
theorem q_restore {qt : Bool} (hS : MS (A 1) P) (hP : P.ok) (hH : MH F A H) (hV : MV F A S) (hq : F 6 = Int32.ofInt (zb qt))
    (h : ∀ F' A', cEq F A F' A' → MS (A' 1) (P.aRest S).2 → MH F' A' (if (P.aRest S).1 < 0 ∨ qt = true then H else hpush H P) → K (some (.int (Int32.ofInt (P.aRest S).1))) (mW F' A')) :
    MOk (d + 3) mX9_restore [.ref 0] (mW F A) K := by
  have e2 := hV.1
  refine MOk.body pl9 rfl (by simp [Value.category]) (Nat.le_of_ble_eq_true rfl) ?_
  refine zrun_ok (cut := []) 200 _ _ _ _ ?_
  simp (disch := omega) only [zstp, zf0, zf1, zf2, zf3, zgi, zgr, zs1, zs2, zsr, ztg, zcall, zk_ap, zcpy, zcpS_9, zcpS_3, zcpS_7, List.getElem?_cons_zero, List.getElem?_cons_succ, List.set_cons_zero, List.set_cons_succ, List.length_cons, List.length_nil, List.drop_succ_cons, List.drop_zero, List.take_succ_cons, List.take_zero, List.reverse_cons, List.reverse_nil, List.nil_append, List.cons_append, List.append_nil, Option.toList_some, Option.toList_none, List.map_cons, List.map_nil, List.sum_cons, List.sum_nil, List.mem_cons, List.not_mem_nil, List.replicate_succ, List.replicate_zero, Value.category, if_true, if_false, and_true, true_and, or_false, false_or, false_and, and_false, or_true, true_or, not_true_eq_false, not_false_eq_true, reduceIte, zif_true, zif_false, zif_not, Fin.isValue, Int.cast_ofNat_Int, znar_b0, znar_b1, Nat.reduceAdd, Nat.reduceSub, Nat.reduceMul, Nat.reduceEqDiff, Nat.reduceLT, Nat.reduceLeDiff, Int.reduceNeg, Int.reduceAdd, Int.reduceSub, Int.reduceToNat, Int.reduceLE, Int.reduceLT, Int.reduceEq, eq_self, zi_int, zi_toInt, zi_0, zi_ne0, Int.toNat_natCast, zbz_eq, zbz_ne, decide_eq_false_iff_not, decide_eq_true_eq, Nat.zero_mod, Int.zero_add, Int.add_zero, zi_add, zi_sub, zi_mul, Nat.zero_add, zfit_int, znar_int, mg_0, mg_1, mg_2, mp_2, mg_3, mg_4, mp_4, mg_5, mg_6, mp_6, mg_7, mg_8, mp_8, mg_9, mp_9, mg_10, mg_11, mp_11, mg_12, mp_12, mg_13, mp_13, mg_14, mp_14, mg_15, mp_15, mg_16, mg_17, mg_18, mp_18, mg_19, mg_20, mg_21, mp_21, mg_22, mp_22, mg_23, mg_24, mp_24, mg_25, mg_26, mp_26, mg_27, mp_27, mg_28, mp_28, mg_29, ma_1, mu_1, ma_2, mu_2, ma_3, mu_3, ma_4, mu_4, ma_5, mu_5, ma_6, mu_6, ma_7, mu_7, ma_8, mu_8, ma_9, mu_9, ma_10, mu_10, ma_11, mu_11, ma_12, mu_12, ma_13, mu_13, mW_n, mW_c, zi_clamp, zbr_lt, zbr_gt, zbr_ge, zbr_le, zbr_eq, zbr_ne, zvup_s, zvup_n, zvup_vup, zup_s, zup_n, zupd_upd,  oX9_restore, rX9_restore, nX9_restore, zrun_at (M := mX9_restore) dX9_restore_0 rfl (cut := []) (by decide), zrun_at (M := mX9_restore) dX9_restore_1 rfl (cut := []) (by decide), f_9_363, zrun_at (M := mX9_restore) dX9_restore_4 rfl (cut := []) (by decide), zrun_at (M := mX9_restore) dX9_restore_7 rfl (cut := []) (by decide), zrun_at (M := mX9_restore) dX9_restore_9 rfl (cut := []) (by decide), zrun_at (M := mX9_restore) dX9_restore_10 rfl (cut := []) (by decide), zrun_at (M := mX9_restore) dX9_restore_11 rfl (cut := []) (by decide), l_9_88, zrun_at (M := mX9_restore) dX9_restore_14 rfl (cut := []) (by decide), zrun_at (M := mX9_restore) dX9_restore_15 rfl (cut := []) (by decide), f_9_13, zrun_at (M := mX9_restore) dX9_restore_18 rfl (cut := []) (by decide), zrun_at (M := mX9_restore) dX9_restore_19 rfl (cut := []) (by decide), zrun_at (M := mX9_restore) dX9_restore_20 rfl (cut := []) (by decide), f_9_9, zrun_at (M := mX9_restore) dX9_restore_23 rfl (cut := []) (by decide), zrun_at (M := mX9_restore) dX9_restore_24 rfl (cut := []) (by decide), zrun_at (M := mX9_restore) dX9_restore_27 rfl (cut := []) (by decide), b_9_53, zrun_at (M := mX9_restore) dX9_restore_30 rfl (cut := []) (by decide), zrun_at (M := mX9_restore) dX9_restore_31 rfl (cut := []) (by decide), zrun_at (M := mX9_restore) dX9_restore_34 rfl (cut := []) (by decide), zrun_at (M := mX9_restore) dX9_restore_35 rfl (cut := []) (by decide), zrun_at (M := mX9_restore) dX9_restore_36 rfl (cut := []) (by decide), e2]
  refine ⟨fun g1 => ?_, fun g1 => ?_⟩
  · obtain ⟨Q, rfl⟩ := Option.isSome_iff_exists.mp g1
    obtain ⟨q1, q2⟩ := hV.2 Q rfl
    have h24 := q1.1
    refine c_change hS hP hH hq (fun F1 A1 hE hH1 => ?_)
    have e3 : A1 2 = A 2 := hE.2 2 (by omega)
    have hM : MS (va_cpy (A1 2) (A1 1) 0 0 298) Q := by
      rw [e3]
      refine q2.cg q1 (fun j hj => ?_)
      rw [pk_cpy_in (by omega) (by omega)]
      congr 1
      omega
    have e0 : va_cpy (A1 2) (A1 1) 0 0 298 0 = Int32.ofInt Q.nl := hM.1
    simp (disch := omega) only [zstp, zf0, zf1, zf2, zf3, zgi, zgr, zs1, zs2, zsr, ztg, zcall, zk_ap, zcpy, zcpS_9, zcpS_3, zcpS_7, List.getElem?_cons_zero, List.getElem?_cons_succ, List.set_cons_zero, List.set_cons_succ, List.length_cons, List.length_nil, List.drop_succ_cons, List.drop_zero, List.take_succ_cons, List.take_zero, List.reverse_cons, List.reverse_nil, List.nil_append, List.cons_append, List.append_nil, Option.toList_some, Option.toList_none, List.map_cons, List.map_nil, List.sum_cons, List.sum_nil, List.mem_cons, List.not_mem_nil, List.replicate_succ, List.replicate_zero, Value.category, if_true, if_false, and_true, true_and, or_false, false_or, false_and, and_false, or_true, true_or, not_true_eq_false, not_false_eq_true, reduceIte, zif_true, zif_false, zif_not, Fin.isValue, Int.cast_ofNat_Int, znar_b0, znar_b1, Nat.reduceAdd, Nat.reduceSub, Nat.reduceMul, Nat.reduceEqDiff, Nat.reduceLT, Nat.reduceLeDiff, Int.reduceNeg, Int.reduceAdd, Int.reduceSub, Int.reduceToNat, Int.reduceLE, Int.reduceLT, Int.reduceEq, eq_self, zi_int, zi_toInt, zi_0, zi_ne0, Int.toNat_natCast, zbz_eq, zbz_ne, decide_eq_false_iff_not, decide_eq_true_eq, Nat.zero_mod, Int.zero_add, Int.add_zero, zi_add, zi_sub, zi_mul, Nat.zero_add, zfit_int, znar_int, mg_0, mg_1, mg_2, mp_2, mg_3, mg_4, mp_4, mg_5, mg_6, mp_6, mg_7, mg_8, mp_8, mg_9, mp_9, mg_10, mg_11, mp_11, mg_12, mp_12, mg_13, mp_13, mg_14, mp_14, mg_15, mp_15, mg_16, mg_17, mg_18, mp_18, mg_19, mg_20, mg_21, mp_21, mg_22, mp_22, mg_23, mg_24, mp_24, mg_25, mg_26, mp_26, mg_27, mp_27, mg_28, mp_28, mg_29, ma_1, mu_1, ma_2, mu_2, ma_3, mu_3, ma_4, mu_4, ma_5, mu_5, ma_6, mu_6, ma_7, mu_7, ma_8, mu_8, ma_9, mu_9, ma_10, mu_10, ma_11, mu_11, ma_12, mu_12, ma_13, mu_13, mW_n, mW_c, zi_clamp, zbr_lt, zbr_gt, zbr_ge, zbr_le, zbr_eq, zbr_ne, zvup_s, zvup_n, zvup_vup, zup_s, zup_n, zupd_upd,  oX9_restore, rX9_restore, nX9_restore, zrun_at (M := mX9_restore) dX9_restore_0 rfl (cut := []) (by decide), zrun_at (M := mX9_restore) dX9_restore_1 rfl (cut := []) (by decide), f_9_363, zrun_at (M := mX9_restore) dX9_restore_4 rfl (cut := []) (by decide), zrun_at (M := mX9_restore) dX9_restore_7 rfl (cut := []) (by decide), zrun_at (M := mX9_restore) dX9_restore_9 rfl (cut := []) (by decide), zrun_at (M := mX9_restore) dX9_restore_10 rfl (cut := []) (by decide), zrun_at (M := mX9_restore) dX9_restore_11 rfl (cut := []) (by decide), l_9_88, zrun_at (M := mX9_restore) dX9_restore_14 rfl (cut := []) (by decide), zrun_at (M := mX9_restore) dX9_restore_15 rfl (cut := []) (by decide), f_9_13, zrun_at (M := mX9_restore) dX9_restore_18 rfl (cut := []) (by decide), zrun_at (M := mX9_restore) dX9_restore_19 rfl (cut := []) (by decide), zrun_at (M := mX9_restore) dX9_restore_20 rfl (cut := []) (by decide), f_9_9, zrun_at (M := mX9_restore) dX9_restore_23 rfl (cut := []) (by decide), zrun_at (M := mX9_restore) dX9_restore_24 rfl (cut := []) (by decide), zrun_at (M := mX9_restore) dX9_restore_27 rfl (cut := []) (by decide), b_9_53, zrun_at (M := mX9_restore) dX9_restore_30 rfl (cut := []) (by decide), zrun_at (M := mX9_restore) dX9_restore_31 rfl (cut := []) (by decide), zrun_at (M := mX9_restore) dX9_restore_34 rfl (cut := []) (by decide), zrun_at (M := mX9_restore) dX9_restore_35 rfl (cut := []) (by decide), zrun_at (M := mX9_restore) dX9_restore_36 rfl (cut := []) (by decide), zi_nneg, e0]
    refine h _ _ hE.c.s ?_ ?_
    · rw [zvup_s]; exact hM
    · rw [show (if ((P.aRest (some Q)).1 < 0 ∨ qt = true) then H else hpush H P) = (if qt = true then H else hpush H P) from by
        have : ¬ ((P.aRest (some Q)).1 < 0) := by show ¬ ((Q.nl : Int) < 0); omega
        simp only [this, false_or]]
      exact MH.cg hH1 rfl (zvup_n (by omega))
  · have : S = none := by cases S <;> simp_all
    subst this
    exact h _ _ cEq.rf hS (by rw [if_pos (Or.inl (by show (-2 : Int) < 0; omega))]; exact hH)
def Pl.aUndo (P : Pl) (H : List Pl) : Int × Pl := match H.getLast? with
  | some Q => ((H.length : Int) - 1, Q)
  | none => (-2, P)
set_option maxRecDepth 100000 in
theorem q_undo (hS : MS (A 1) P) (hP : P.ok) (hH : MH F A H)
    (h : ∀ F' A', cEq F A F' A' → MS (A' 1) (P.aUndo H).2 → MH F' A' H.dropLast → K (some (.int (Int32.ofInt (P.aUndo H).1))) (mW F' A')) :
    MOk (d + 2) mX9_undo [.ref 0] (mW F A) K := by
  have e4 := hH.2.1
  have h8 := hH.1
  refine MOk.body pl9 rfl (by simp [Value.category]) (Nat.le_of_ble_eq_true rfl) ?_
  refine zrun_ok (cut := []) 200 _ _ _ _ ?_
  simp (disch := omega) only [zstp, zf0, zf1, zf2, zf3, zgi, zgr, zs1, zs2, zsr, ztg, zcall, zk_ap, zcpy, zcpS_9, zcpS_3, zcpS_7, List.getElem?_cons_zero, List.getElem?_cons_succ, List.set_cons_zero, List.set_cons_succ, List.length_cons, List.length_nil, List.drop_succ_cons, List.drop_zero, List.take_succ_cons, List.take_zero, List.reverse_cons, List.reverse_nil, List.nil_append, List.cons_append, List.append_nil, Option.toList_some, Option.toList_none, List.map_cons, List.map_nil, List.sum_cons, List.sum_nil, List.mem_cons, List.not_mem_nil, List.replicate_succ, List.replicate_zero, Value.category, if_true, if_false, and_true, true_and, or_false, false_or, false_and, and_false, or_true, true_or, not_true_eq_false, not_false_eq_true, reduceIte, zif_true, zif_false, zif_not, Fin.isValue, Int.cast_ofNat_Int, znar_b0, znar_b1, Nat.reduceAdd, Nat.reduceSub, Nat.reduceMul, Nat.reduceEqDiff, Nat.reduceLT, Nat.reduceLeDiff, Int.reduceNeg, Int.reduceAdd, Int.reduceSub, Int.reduceToNat, Int.reduceLE, Int.reduceLT, Int.reduceEq, eq_self, zi_int, zi_toInt, zi_0, zi_ne0, Int.toNat_natCast, zbz_eq, zbz_ne, decide_eq_false_iff_not, decide_eq_true_eq, Nat.zero_mod, Int.zero_add, Int.add_zero, zi_add, zi_sub, zi_mul, Nat.zero_add, zfit_int, znar_int, mg_0, mg_1, mg_2, mp_2, mg_3, mg_4, mp_4, mg_5, mg_6, mp_6, mg_7, mg_8, mp_8, mg_9, mp_9, mg_10, mg_11, mp_11, mg_12, mp_12, mg_13, mp_13, mg_14, mp_14, mg_15, mp_15, mg_16, mg_17, mg_18, mp_18, mg_19, mg_20, mg_21, mp_21, mg_22, mp_22, mg_23, mg_24, mp_24, mg_25, mg_26, mp_26, mg_27, mp_27, mg_28, mp_28, mg_29, ma_1, mu_1, ma_2, mu_2, ma_3, mu_3, ma_4, mu_4, ma_5, mu_5, ma_6, mu_6, ma_7, mu_7, ma_8, mu_8, ma_9, mu_9, ma_10, mu_10, ma_11, mu_11, ma_12, mu_12, ma_13, mu_13, mW_n, mW_c, zi_clamp, zbr_lt, zbr_gt, zbr_ge, zbr_le, zbr_eq, zbr_ne, zvup_s, zvup_n, zvup_vup, zup_s, zup_n, zupd_upd,  oX9_undo, rX9_undo, nX9_undo, zrun_at (M := mX9_undo) dX9_undo_0 rfl (cut := []) (by decide), zrun_at (M := mX9_undo) dX9_undo_1 rfl (cut := []) (by decide), f_9_67, zrun_at (M := mX9_undo) dX9_undo_4 rfl (cut := []) (by decide), zrun_at (M := mX9_undo) dX9_undo_7 rfl (cut := []) (by decide), zrun_at (M := mX9_undo) dX9_undo_9 rfl (cut := []) (by decide), zrun_at (M := mX9_undo) dX9_undo_10 rfl (cut := []) (by decide), zrun_at (M := mX9_undo) dX9_undo_11 rfl (cut := []) (by decide), zrun_at (M := mX9_undo) dX9_undo_12 rfl (cut := []) (by decide), zrun_at (M := mX9_undo) dX9_undo_15 rfl (cut := []) (by decide), zrun_at (M := mX9_undo) dX9_undo_16 rfl (cut := []) (by decide), zrun_at (M := mX9_undo) dX9_undo_17 rfl (cut := []) (by decide), ft_9_4, fd_9_4, zrun_at (M := mX9_undo) dX9_undo_20 rfl (cut := []) (by decide), zrun_at (M := mX9_undo) dX9_undo_21 rfl (cut := []) (by decide), f_9_16, zrun_at (M := mX9_undo) dX9_undo_24 rfl (cut := []) (by decide), zrun_at (M := mX9_undo) dX9_undo_27 rfl (cut := []) (by decide), zrun_at (M := mX9_undo) dX9_undo_28 rfl (cut := []) (by decide), zrun_at (M := mX9_undo) dX9_undo_31 rfl (cut := []) (by decide), zrun_at (M := mX9_undo) dX9_undo_32 rfl (cut := []) (by decide), zrun_at (M := mX9_undo) dX9_undo_33 rfl (cut := []) (by decide), f_9_9, zrun_at (M := mX9_undo) dX9_undo_36 rfl (cut := []) (by decide), zrun_at (M := mX9_undo) dX9_undo_37 rfl (cut := []) (by decide), zrun_at (M := mX9_undo) dX9_undo_40 rfl (cut := []) (by decide), b_9_53, zrun_at (M := mX9_undo) dX9_undo_43 rfl (cut := []) (by decide), zrun_at (M := mX9_undo) dX9_undo_44 rfl (cut := []) (by decide), zrun_at (M := mX9_undo) dX9_undo_47 rfl (cut := []) (by decide), e4, zi_nneg]
  refine ⟨fun g1 => ?_, fun g1 => ?_⟩
  · have : H = [] := List.length_eq_zero_iff.mp (by omega)
    subst this
    exact h _ _ cEq.rf hS hH
  · rw [zi_nneg (by omega), zi_clamp (by omega)]
    obtain ⟨G, Q, rfl⟩ : ∃ G Q, H = G ++ [Q] := ⟨H.dropLast, H.getLast (by intro e; rw [e] at g1; exact g1 rfl), (List.dropLast_concat_getLast _).symm⟩
    have el : (G ++ [Q]).length = G.length + 1 := by simp
    have ed : (G ++ [Q]).dropLast = G := by simp
    have ea : P.aUndo (G ++ [Q]) = (((G ++ [Q]).length : Int) - 1, Q) := by unfold Pl.aUndo; simp
    rw [ed, ea] at h
    obtain ⟨q1, q2⟩ := hH.2.2 G.length Q (by simp)
    refine ⟨fun e => e, by omega, ?_⟩
    refine h _ _ ⟨fun k hk => zup_n (by omega), fun p hp => zvup_n (by omega)⟩ ?_ ⟨by omega, ?_, fun k Q2 hk => ?_⟩
    · rw [zvup_s]
      refine q2.cg q1 (fun j hj => ?_)
      rw [pk_cpy_in (by omega) (by omega)]
      congr 1
      omega
    · rw [zup_s]
      exact zr_of (by omega)
    · have hk2 := (List.getElem?_eq_some_iff.mp hk).1
      rw [zvup_n (by omega)]
      exact hH.2.2 k Q2 (by rw [List.getElem?_append_left hk2]; exact hk)
end M27
