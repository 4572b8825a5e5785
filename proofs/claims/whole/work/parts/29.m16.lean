abbrev zOf : Type := Int × Int × Int × Int
/-- the reference's offer: crew, other leg, price, minutes -/
def MO (F : Nat → Int32) (o : zOf) : Prop := F 12 = Int32.ofInt o.1 ∧ F 13 = Int32.ofInt o.2.1 ∧ F 14 = Int32.ofInt o.2.2.1 ∧ F 15 = Int32.ofInt o.2.2.2
def ofOk (o : zOf) : Prop := (-2 ≤ o.1 ∧ o.1 < 6) ∧ (-2 ≤ o.2.1 ∧ o.2.1 < 24) ∧ (-2147483648 ≤ o.2.2.1 ∧ o.2.2.1 < 2147483648) ∧ (-2147483648 ≤ o.2.2.2 ∧ o.2.2.2 < 2147483648)
def zbet (o : zOf) (price m : Int) : Bool := decide (o.1 < 0) || (decide (price < o.2.2.1) || (decide (price = o.2.2.1) && decide (m < o.2.2.2)))
def zcon (o : zOf) (c other price m : Int) : zOf := if zbet o price m then (c, other, price, m) else o
/-- nothing but the row that is looked at and the offer has changed -/
def oEq (F : Nat → Int32) (A : Nat → Nat → Int32) (F' : Nat → Int32) (A' : Nat → Nat → Int32) : Prop := (∀ k, ¬ (k = 8 ∨ k = 9 ∨ k = 12 ∨ k = 13 ∨ k = 14 ∨ k = 15) → F' k = F k) ∧ ∀ p, p ≠ 5 → A' p = A p
theorem oEq.rf {F : Nat → Int32} {A : Nat → Nat → Int32} : oEq F A F A := ⟨fun _ _ => rfl, fun _ _ => rfl⟩
theorem oEq.tr {F F' F2 : Nat → Int32} {A A' A2 : Nat → Nat → Int32} (h : oEq F A F' A') (h2 : oEq F' A' F2 A2) : oEq F A F2 A2 :=
  ⟨fun k hk => (h2.1 k hk).trans (h.1 k hk), fun p hp => (h2.2 p hp).trans (h.2 p hp)⟩
theorem oEq.m {F F' : Nat → Int32} {A A' : Nat → Nat → Int32} (h : oEq F A F' A') : mEq F A F' A' := ⟨fun k hk => h.1 k (by omega), fun p hp => h.2 p (by omega)⟩
theorem tEq.o {F F' : Nat → Int32} {A A' : Nat → Nat → Int32} (h : tEq F A F' A') : oEq F A F' A' := ⟨fun k hk => h.1 k (by omega) (by omega), h.2⟩
theorem oEq.f {F F' : Nat → Int32} {A A' : Nat → Nat → Int32} {k : Nat} {v : Int32} (h : oEq F A F' A') (hk : k = 12 ∨ k = 13 ∨ k = 14 ∨ k = 15) : oEq F A (upd F' k v) A' :=
  ⟨fun j hj => by rw [zup_n (by omega)]; exact h.1 j hj, h.2⟩
theorem oEq.ms {F F' : Nat → Int32} {A A' : Nat → Nat → Int32} {P : Pl} (h : oEq F A F' A') (hS : MS (A 1) P) : MS (A' 1) P := by
  rw [h.2 1 (by omega)]; exact hS
/-- whether a crew could fly a leg after riding on another one -/
def Pl.way (P : Pl) (c other l : Nat) : Bool := decide (P.dp other < P.dp l) && (decide (P.hnd (P.its c) (P.cr c 0) other false = 0) && decide (P.hnd (P.ins (P.its c) (2 * other)) (P.cr c 0) l true = 0))
def Pl.ofI (P : Pl) (l c : Nat) : Nat → Nat → zOf → zOf
  | 0, _, o => o
  | n + 1, x, o => P.ofI l c n (x + 1) (if P.way c x l then zcon o c x (P.len x * P.ru 6) (P.mins c) else o)
def Pl.ofO (P : Pl) (l : Nat) : Nat → Nat → zOf → zOf
  | 0, _, o => o
  | n + 1, c, o => P.ofO l n (c + 1) (if P.isR c then o else P.ofI l c P.nl 0 (if P.hnd (P.its c) (P.cr c 0) l true = 0 then zcon o c (-2) 0 (P.mins c) else o))
section M16
variable {d w0n rc0 rs0 : Nat} {F : Nat → Int32} {A : Nat → Nat → Int32} {P : Pl} {K : Option Value → zWd → Prop} {L : List Nat} {b : Int} {a i w : Int}
set_option maxRecDepth 100000 in
theorem c_consider {c : Nat} {other price : Int} {o : zOf} (hS : MS (A 1) P) (hP : P.ok) (hc : c < P.nc) (hO : MO F o) (ho : ofOk o) (hoth : -2 ≤ other ∧ other < 24) (hpr : 0 ≤ price ∧ price ≤ 10000000)
    (h : ∀ F' A', oEq F A F' A' → MO F' (zcon o c other price (P.mins c)) → K none (mW F' A')) : MOk (d + 5) mX9_consider [.ref 0, .int (Int32.ofInt c), .int (Int32.ofInt other), .int (Int32.ofInt price)] (mW F A) K := by
  have hm := mins_r (c := c) hP
  obtain ⟨o1, o2, o3, o4⟩ := hO
  obtain ⟨p1, p2, p3, p4⟩ := ho
  obtain ⟨oc, ol, op, om⟩ := o
  dsimp only at o1 o2 o3 o4 p1 p2 p3 p4
  refine MOk.body pl9 rfl (by simp [Value.category]) (Nat.le_of_ble_eq_true rfl) ?_
  refine zrun_ok (cut := []) 200 _ _ _ _ ?_
  simp (disch := omega) only [zstp, zf0, zf1, zf2, zf3, zgi, zgr, zs1, zs2, zsr, ztg, zcall, zk_ap, zcpy, zcpS_9, zcpS_3, zcpS_7, List.getElem?_cons_zero, List.getElem?_cons_succ, List.set_cons_zero, List.set_cons_succ, List.length_cons, List.length_nil, List.drop_succ_cons, List.drop_zero, List.take_succ_cons, List.take_zero, List.reverse_cons, List.reverse_nil, List.nil_append, List.cons_append, List.append_nil, Option.toList_some, Option.toList_none, List.map_cons, List.map_nil, List.sum_cons, List.sum_nil, List.mem_cons, List.not_mem_nil, List.replicate_succ, List.replicate_zero, Value.category, if_true, if_false, and_true, true_and, or_false, false_or, false_and, and_false, or_true, true_or, not_true_eq_false, not_false_eq_true, reduceIte, zif_true, zif_false, zif_not, Fin.isValue, Int.cast_ofNat_Int, znar_b0, znar_b1, Nat.reduceAdd, Nat.reduceSub, Nat.reduceMul, Nat.reduceEqDiff, Nat.reduceLT, Nat.reduceLeDiff, Int.reduceNeg, Int.reduceAdd, Int.reduceSub, Int.reduceToNat, Int.reduceLE, Int.reduceLT, Int.reduceEq, eq_self, zi_int, zi_toInt, zi_0, zi_ne0, Int.toNat_natCast, zbz_eq, zbz_ne, decide_eq_false_iff_not, decide_eq_true_eq, Nat.zero_mod, Int.zero_add, Int.add_zero, zi_add, zi_sub, zi_mul, Nat.zero_add, zfit_int, znar_int, mg_0, mg_1, mg_2, mp_2, mg_3, mg_4, mp_4, mg_5, mg_6, mp_6, mg_7, mg_8, mp_8, mg_9, mp_9, mg_10, mg_11, mp_11, mg_12, mp_12, mg_13, mp_13, mg_14, mp_14, mg_15, mp_15, mg_16, mg_17, mg_18, mp_18, mg_19, mg_20, mg_21, mp_21, mg_22, mp_22, mg_23, mg_24, mp_24, mg_25, mg_26, mp_26, mg_27, mp_27, mg_28, mp_28, mg_29, ma_1, mu_1, ma_2, mu_2, ma_3, mu_3, ma_4, mu_4, ma_5, mu_5, ma_6, mu_6, ma_7, mu_7, ma_8, mu_8, ma_9, mu_9, ma_10, mu_10, ma_11, mu_11, ma_12, mu_12, ma_13, mu_13, mW_n, mW_c, zi_clamp, zbr_lt, zbr_gt, zbr_ge, zbr_le, zbr_eq, zbr_ne, zvup_s, zvup_n, zvup_vup, zup_s, zup_n, zupd_upd,  oX9_consider, rX9_consider, nX9_consider, zrun_at (M := mX9_consider) dX9_consider_0 rfl (cut := []) (by decide), zrun_at (M := mX9_consider) dX9_consider_1 rfl (cut := []) (by decide), zrun_at (M := mX9_consider) dX9_consider_2 rfl (cut := []) (by decide), l_9_193, zrun_at (M := mX9_consider) dX9_consider_5 rfl (cut := []) (by decide), zrun_at (M := mX9_consider) dX9_consider_7 rfl (cut := []) (by decide), zrun_at (M := mX9_consider) dX9_consider_8 rfl (cut := []) (by decide), f_9_221, zrun_at (M := mX9_consider) dX9_consider_11 rfl (cut := []) (by decide), zrun_at (M := mX9_consider) dX9_consider_14 rfl (cut := []) (by decide), zrun_at (M := mX9_consider) dX9_consider_15 rfl (cut := []) (by decide), zrun_at (M := mX9_consider) dX9_consider_16 rfl (cut := []) (by decide), f_9_224, zrun_at (M := mX9_consider) dX9_consider_19 rfl (cut := []) (by decide), zrun_at (M := mX9_consider) dX9_consider_22 rfl (cut := []) (by decide), zrun_at (M := mX9_consider) dX9_consider_23 rfl (cut := []) (by decide), zrun_at (M := mX9_consider) dX9_consider_24 rfl (cut := []) (by decide), zrun_at (M := mX9_consider) dX9_consider_27 rfl (cut := []) (by decide), zrun_at (M := mX9_consider) dX9_consider_30 rfl (cut := []) (by decide), zrun_at (M := mX9_consider) dX9_consider_32 rfl (cut := []) (by decide), zrun_at (M := mX9_consider) dX9_consider_33 rfl (cut := []) (by decide), f_9_227, zrun_at (M := mX9_consider) dX9_consider_36 rfl (cut := []) (by decide), zrun_at (M := mX9_consider) dX9_consider_39 rfl (cut := []) (by decide), zrun_at (M := mX9_consider) dX9_consider_40 rfl (cut := []) (by decide), zrun_at (M := mX9_consider) dX9_consider_43 rfl (cut := []) (by decide), zrun_at (M := mX9_consider) dX9_consider_44 rfl (cut := []) (by decide), zrun_at (M := mX9_consider) dX9_consider_46 rfl (cut := []) (by decide), zrun_at (M := mX9_consider) dX9_consider_48 rfl (cut := []) (by decide), zrun_at (M := mX9_consider) dX9_consider_51 rfl (cut := []) (by decide), zrun_at (M := mX9_consider) dX9_consider_52 rfl (cut := []) (by decide), zrun_at (M := mX9_consider) dX9_consider_53 rfl (cut := []) (by decide), ft_9_12, fd_9_12, zrun_at (M := mX9_consider) dX9_consider_56 rfl (cut := []) (by decide), zrun_at (M := mX9_consider) dX9_consider_57 rfl (cut := []) (by decide), zrun_at (M := mX9_consider) dX9_consider_58 rfl (cut := []) (by decide), f_9_230, ft_9_13, fd_9_13, zrun_at (M := mX9_consider) dX9_consider_61 rfl (cut := []) (by decide), zrun_at (M := mX9_consider) dX9_consider_62 rfl (cut := []) (by decide), zrun_at (M := mX9_consider) dX9_consider_63 rfl (cut := []) (by decide), ft_9_14, fd_9_14, zrun_at (M := mX9_consider) dX9_consider_66 rfl (cut := []) (by decide), zrun_at (M := mX9_consider) dX9_consider_67 rfl (cut := []) (by decide), zrun_at (M := mX9_consider) dX9_consider_69 rfl (cut := []) (by decide), ft_9_15, fd_9_15, zrun_at (M := mX9_consider) dX9_consider_72 rfl (cut := []) (by decide)]
  refine c_minutesOf hS hP hc (fun a5 h5 => ?_)
  have hE := (tEq.take (F := F) (A := A) (u := Int32.ofInt ((P.its c).length : Int)) (v := Int32.ofInt (P.cr c 0)) (a5 := a5))
  generalize upd (upd F 8 (Int32.ofInt ((P.its c).length : Int))) 9 (Int32.ofInt (P.cr c 0)) = F3 at hE ⊢
  generalize va_up A 5 a5 = A3 at hE ⊢
  have q1 : F3 12 = Int32.ofInt oc := (hE.1 12 (by omega) (by omega)).trans o1
  have q2 : F3 13 = Int32.ofInt ol := (hE.1 13 (by omega) (by omega)).trans o2
  have q3 : F3 14 = Int32.ofInt op := (hE.1 14 (by omega) (by omega)).trans o3
  have q4 : F3 15 = Int32.ofInt om := (hE.1 15 (by omega) (by omega)).trans o4
  have Y : zbet (oc, ol, op, om) price (P.mins c) = true → K none (mW (upd (upd (upd (upd F3 12 (Int32.ofInt c)) 13 (Int32.ofInt other)) 14 (Int32.ofInt price)) 15 (Int32.ofInt (P.mins c))) A3) := by
    intro hb
    refine h _ _ ((((hE.o.f (by omega)).f (by omega)).f (by omega)).f (by omega)) ?_
    unfold zcon
    rw [if_pos hb]
    refine ⟨?_, ?_, ?_, ?_⟩ <;> dsimp only
    · rw [zup_n (by omega), zup_n (by omega), zup_n (by omega), zup_s]
    · rw [zup_n (by omega), zup_n (by omega), zup_s]
    · rw [zup_n (by omega), zup_s]
    · rw [zup_s]
  have N : zbet (oc, ol, op, om) price (P.mins c) = false → K none (mW F3 A3) := by
    intro hb
    refine h _ _ hE.o ?_
    unfold zcon
    rw [if_neg (by simp [hb])]
    exact ⟨q1, q2, q3, q4⟩
  simp (disch := omega) only [zstp, zf0, zf1, zf2, zf3, zgi, zgr, zs1, zs2, zsr, ztg, zcall, zk_ap, zcpy, zcpS_9, zcpS_3, zcpS_7, List.getElem?_cons_zero, List.getElem?_cons_succ, List.set_cons_zero, List.set_cons_succ, List.length_cons, List.length_nil, List.drop_succ_cons, List.drop_zero, List.take_succ_cons, List.take_zero, List.reverse_cons, List.reverse_nil, List.nil_append, List.cons_append, List.append_nil, Option.toList_some, Option.toList_none, List.map_cons, List.map_nil, List.sum_cons, List.sum_nil, List.mem_cons, List.not_mem_nil, List.replicate_succ, List.replicate_zero, Value.category, if_true, if_false, and_true, true_and, or_false, false_or, false_and, and_false, or_true, true_or, not_true_eq_false, not_false_eq_true, reduceIte, zif_true, zif_false, zif_not, Fin.isValue, Int.cast_ofNat_Int, znar_b0, znar_b1, Nat.reduceAdd, Nat.reduceSub, Nat.reduceMul, Nat.reduceEqDiff, Nat.reduceLT, Nat.reduceLeDiff, Int.reduceNeg, Int.reduceAdd, Int.reduceSub, Int.reduceToNat, Int.reduceLE, Int.reduceLT, Int.reduceEq, eq_self, zi_int, zi_toInt, zi_0, zi_ne0, Int.toNat_natCast, zbz_eq, zbz_ne, decide_eq_false_iff_not, decide_eq_true_eq, Nat.zero_mod, Int.zero_add, Int.add_zero, zi_add, zi_sub, zi_mul, Nat.zero_add, zfit_int, znar_int, mg_0, mg_1, mg_2, mp_2, mg_3, mg_4, mp_4, mg_5, mg_6, mp_6, mg_7, mg_8, mp_8, mg_9, mp_9, mg_10, mg_11, mp_11, mg_12, mp_12, mg_13, mp_13, mg_14, mp_14, mg_15, mp_15, mg_16, mg_17, mg_18, mp_18, mg_19, mg_20, mg_21, mp_21, mg_22, mp_22, mg_23, mg_24, mp_24, mg_25, mg_26, mp_26, mg_27, mp_27, mg_28, mp_28, mg_29, ma_1, mu_1, ma_2, mu_2, ma_3, mu_3, ma_4, mu_4, ma_5, mu_5, ma_6, mu_6, ma_7, mu_7, ma_8, mu_8, ma_9, mu_9, ma_10, mu_10, ma_11, mu_11, ma_12, mu_12, ma_13, mu_13, mW_n, mW_c, zi_clamp, zbr_lt, zbr_gt, zbr_ge, zbr_le, zbr_eq, zbr_ne, zvup_s, zvup_n, zvup_vup, zup_s, zup_n, zupd_upd,  oX9_consider, rX9_consider, nX9_consider, zrun_at (M := mX9_consider) dX9_consider_0 rfl (cut := []) (by decide), zrun_at (M := mX9_consider) dX9_consider_1 rfl (cut := []) (by decide), zrun_at (M := mX9_consider) dX9_consider_2 rfl (cut := []) (by decide), l_9_193, zrun_at (M := mX9_consider) dX9_consider_5 rfl (cut := []) (by decide), zrun_at (M := mX9_consider) dX9_consider_7 rfl (cut := []) (by decide), zrun_at (M := mX9_consider) dX9_consider_8 rfl (cut := []) (by decide), f_9_221, zrun_at (M := mX9_consider) dX9_consider_11 rfl (cut := []) (by decide), zrun_at (M := mX9_consider) dX9_consider_14 rfl (cut := []) (by decide), zrun_at (M := mX9_consider) dX9_consider_15 rfl (cut := []) (by decide), zrun_at (M := mX9_consider) dX9_consider_16 rfl (cut := []) (by decide), f_9_224, zrun_at (M := mX9_consider) dX9_consider_19 rfl (cut := []) (by decide), zrun_at (M := mX9_consider) dX9_consider_22 rfl (cut := []) (by decide), zrun_at (M := mX9_consider) dX9_consider_23 rfl (cut := []) (by decide), zrun_at (M := mX9_consider) dX9_consider_24 rfl (cut := []) (by decide), zrun_at (M := mX9_consider) dX9_consider_27 rfl (cut := []) (by decide), zrun_at (M := mX9_consider) dX9_consider_30 rfl (cut := []) (by decide), zrun_at (M := mX9_consider) dX9_consider_32 rfl (cut := []) (by decide), zrun_at (M := mX9_consider) dX9_consider_33 rfl (cut := []) (by decide), f_9_227, zrun_at (M := mX9_consider) dX9_consider_36 rfl (cut := []) (by decide), zrun_at (M := mX9_consider) dX9_consider_39 rfl (cut := []) (by decide), zrun_at (M := mX9_consider) dX9_consider_40 rfl (cut := []) (by decide), zrun_at (M := mX9_consider) dX9_consider_43 rfl (cut := []) (by decide), zrun_at (M := mX9_consider) dX9_consider_44 rfl (cut := []) (by decide), zrun_at (M := mX9_consider) dX9_consider_46 rfl (cut := []) (by decide), zrun_at (M := mX9_consider) dX9_consider_48 rfl (cut := []) (by decide), zrun_at (M := mX9_consider) dX9_consider_51 rfl (cut := []) (by decide), zrun_at (M := mX9_consider) dX9_consider_52 rfl (cut := []) (by decide), zrun_at (M := mX9_consider) dX9_consider_53 rfl (cut := []) (by decide), ft_9_12, fd_9_12, zrun_at (M := mX9_consider) dX9_consider_56 rfl (cut := []) (by decide), zrun_at (M := mX9_consider) dX9_consider_57 rfl (cut := []) (by decide), zrun_at (M := mX9_consider) dX9_consider_58 rfl (cut := []) (by decide), f_9_230, ft_9_13, fd_9_13, zrun_at (M := mX9_consider) dX9_consider_61 rfl (cut := []) (by decide), zrun_at (M := mX9_consider) dX9_consider_62 rfl (cut := []) (by decide), zrun_at (M := mX9_consider) dX9_consider_63 rfl (cut := []) (by decide), ft_9_14, fd_9_14, zrun_at (M := mX9_consider) dX9_consider_66 rfl (cut := []) (by decide), zrun_at (M := mX9_consider) dX9_consider_67 rfl (cut := []) (by decide), zrun_at (M := mX9_consider) dX9_consider_69 rfl (cut := []) (by decide), ft_9_15, fd_9_15, zrun_at (M := mX9_consider) dX9_consider_72 rfl (cut := []) (by decide), q1, q3, q4]
  refine ⟨fun h1 => Y (by simp [zbet]; omega), fun h1 => ⟨fun h2 => Y (by simp [zbet]; omega), fun h2 => ?_⟩⟩
  by_cases h3 : price = op
  · rw [zif_t h3]
    refine ⟨fun h4 => N (by simp [zbet]; omega), fun h4 => Y (by simp [zbet]; omega)⟩
  · rw [zif_f h3]
    exact N (by simp [zbet]; omega)
theorem pin_ins {x l : Nat} (h : pin (P.ins L x) l = -1) : pin L l = -1 := by
  rcases pin_ok (L := L) (l := l) with h1 | ⟨k, h1, h2, h3⟩
  · exact h1.1
  · exfalso
    have hm : rc L k ∈ P.ins L x := mem_ins.mpr (Or.inr (rc_mem h1))
    obtain ⟨j, hj, e⟩ := mem_rc hm
    rcases pin_ok (L := P.ins L x) (l := l) with h4 | ⟨k', h4, h5, h6⟩
    · exact h4.2 j hj (by unfold rg at h3 ⊢; rw [e]; exact h3)
    · omega
/-- a row in order, of legs that are there, is short -/
theorem srt_len {L : List Nat} (h : srt P L) (hV : ∀ i, i < L.length → rg L i < P.nl) : L.length ≤ P.nl := by
  have hm : ∀ (n : Nat) (M : List Nat), M.Nodup → (∀ x, x ∈ M → x < n) → M.length ≤ n := by
    intro n
    induction n with
    | zero =>
      intro M _ hx
      cases M with
      | nil => exact Nat.le_refl _
      | cons a M => exact absurd (hx a List.mem_cons_self) (by omega)
    | succ n ih =>
      intro M hn hx
      have h1 := ih (M.filter (fun x => decide (x ≠ n))) (hn.filter _) (fun x hx2 => by
        rw [List.mem_filter] at hx2
        have := hx x hx2.1
        have h3 : x ≠ n := by simpa using hx2.2
        omega)
      have h2 : M.length ≤ (M.filter (fun x => decide (x ≠ n))).length + 1 := by
        clear h1 ih hx
        induction M with
        | nil => simp
        | cons a M ihm =>
          rw [List.nodup_cons] at hn
          by_cases e : a = n
          · subst e
            have : M.filter (fun x => decide (x ≠ a)) = M := by
              rw [List.filter_eq_self]
              intro x hx
              have : x ≠ a := fun q => hn.1 (q ▸ hx)
              simpa using this
            rw [List.filter_cons_of_neg (by simp), this]
            simp
          · rw [List.filter_cons_of_pos (by simpa using e)]
            have := ihm hn.2
            simp only [List.length_cons]
            omega
      omega
  have hl : L.length = (L.map (fun x => x / 2)).length := by rw [List.length_map]
  rw [hl]
  refine hm P.nl _ ?_ (fun x hx => ?_)
  · rw [List.nodup_iff_pairwise_ne, List.pairwise_iff_getElem]
    intro i j hi hj hij e
    rw [List.length_map] at hi hj
    have := h i j hij hj
    rw [List.getElem_map, List.getElem_map] at e
    unfold rg rc at this
    rw [List.getD_eq_getElem?_getD, List.getD_eq_getElem?_getD, List.getElem?_eq_getElem hi, List.getElem?_eq_getElem hj] at this
    simp only [Option.getD_some] at this
    rw [e] at this
    exact Pl.lt_irrefl this
  · obtain ⟨y, hy, rfl⟩ := List.mem_map.mp hx
    obtain ⟨i, hi, e⟩ := mem_rc hy
    have := hV i hi
    unfold rg at this
    rw [e] at this
    exact this
/-- a leg that isn't in a row in order has room in it -/
theorem pin_24 {l : Nat} (hP : P.ok) (h : srt P L) (hV : RV P L) (hl : l < P.nl) (hp : pin L l = -1) : L.length < 24 := by
  have h24 := hP.1
  have h1 : ∀ i, i < L.length → rg L i ≠ 2 * l / 2 := by
    intro i hi e
    rcases pin_ok (L := L) (l := l) with h2 | ⟨k, h2, h3, h4⟩
    · exact h2.2 i hi (by omega)
    · omega
  have h2 := srt_len (ins_srt h h1) (fun i hi => by
    rw [ins_len] at hi
    unfold rg
    rw [rc_ins]
    have := pos_le (P := P) (L := L) (l := 2 * l / 2) L.length
    split
    · exact hV.2 i (by omega)
    · split
      · omega
      · exact hV.2 (i - 1) (by omega))
  rw [ins_len] at h2
  omega
end M16
