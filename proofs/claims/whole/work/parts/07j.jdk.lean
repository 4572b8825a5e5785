/-! the JDK's own: arraycopy, max, min; statics -/
def zcpS (o idx : Nat) : Prop := (o = 3 ∧ idx = 50) ∨ (o = 9 ∧ idx = 53) ∨ (o = 7 ∧ idx = 91)
theorem zcpS_ok {o idx : Nat} (h : zcpS o idx) : Cond.methodLink (zRn o) idx arraycopyName ∈ wsL_law := by
  rcases h with ⟨rfl, rfl⟩ | ⟨rfl, rfl⟩ | ⟨rfl, rfl⟩
  · exact zr_3 _ (List.mem_of_getElem? (i := 16) rfl)
  · exact zr_6 _ (List.mem_of_getElem? (i := 19) rfl)
  · exact zr_38 _ (List.mem_of_getElem? (i := 1) rfl)
theorem zcp_nat : Cond.native arraycopyName ∈ wsL_law := zr_3 _ (List.mem_of_getElem? (i := 17) rfl)
theorem zcp_stat : Cond.static arraycopyName ∈ wsL_law := zr_3 _ (List.mem_of_getElem? (i := 18) rfl)
theorem zcp_ini : Cond.initialized "java/lang/System" ∈ wsL_law := zr_3 _ (List.mem_of_getElem? (i := 19) rfl)
theorem zmx_l : Cond.methodLink (zRn 9) 138 Lib.Math.max.name ∈ wsL_law := zr_19 _ (List.mem_of_getElem? (i := 10) rfl)
theorem zmx_s : Cond.static Lib.Math.max.name ∈ wsL_law := zr_19 _ (List.mem_of_getElem? (i := 11) rfl)
theorem zmx_c : Cond.code Lib.Math.max.name Lib.Math.max.code 2 (some .int) ∈ wsL_law := zr_19 _ (List.mem_of_getElem? (i := 12) rfl)
theorem zmn_l : Cond.methodLink (zRn 9) 79 Lib.Math.min.name ∈ wsL_law := zr_8 _ (List.mem_of_getElem? (i := 18) rfl)
theorem zmn_s : Cond.static Lib.Math.min.name ∈ wsL_law := zr_8 _ (List.mem_of_getElem? (i := 19) rfl)
theorem zmn_c : Cond.code Lib.Math.min.name Lib.Math.min.code 2 (some .int) ∈ wsL_law := zr_8 _ (List.mem_of_getElem? (i := 21) rfl)
theorem zmm_i : Cond.initialized "java/lang/Math" ∈ wsL_law := zr_8 _ (List.mem_of_getElem? (i := 20) rfl)
theorem zgs_0 : Cond.fieldLink (zRn 8) 311 "CrewPairer" "RULE_LEAST" "[I" ∈ wsL_law := zr_12 _ (List.mem_of_getElem? (i := 20) rfl)
theorem zgs_1 : Cond.fieldLink (zRn 8) 314 "CrewPairer" "RULE_MOST" "[I" ∈ wsL_law := zr_12 _ (List.mem_of_getElem? (i := 21) rfl)
theorem zgs_4 : Cond.fieldLink (zRn 9) 108 "CrewPairerModel" "LEAST" "[I" ∈ wsL_law := zr_13 _ (List.mem_of_getElem? (i := 3) rfl)
theorem zgs_5 : Cond.fieldLink (zRn 9) 111 "CrewPairerModel" "MOST" "[I" ∈ wsL_law := zr_13 _ (List.mem_of_getElem? (i := 4) rfl)
theorem zgs_6 : Cond.fieldLink (zRn 9) 50 "CrewPairerModel" "FIRST" "[I" ∈ wsL_law := zr_6 _ (List.mem_of_getElem? (i := 18) rfl)
/-- which static a getstatic reads -/
def zGs (o idx : Nat) : Option Nat := if o = 8 ∧ idx = 311 then some 0 else if o = 8 ∧ idx = 314 then some 1 else if o = 3 ∧ idx = 47 then some 2 else if o = 0 ∧ idx = 44 then some 3 else if o = 9 ∧ idx = 108 then some 4 else if o = 9 ∧ idx = 111 then some 5 else if o = 9 ∧ idx = 50 then some 6 else none
theorem gs_8_311 : zGs 8 311 = some 0 := rfl
theorem gs_8_314 : zGs 8 314 = some 1 := rfl
theorem gs_3_47 : zGs 3 47 = some 2 := rfl
theorem gs_0_44 : zGs 0 44 = some 3 := rfl
theorem gs_9_108 : zGs 9 108 = some 4 := rfl
theorem gs_9_111 : zGs 9 111 = some 5 := rfl
theorem gs_9_50 : zGs 9 50 = some 6 := rfl
section ZJ
variable {M : zMth} {d w0n pc : Nat} {lv : List (Option Value)} {st : List Value} {w : zWd} {rc rs : Nat} {Q : Option Value → zWd → Prop}
theorem zcat_sum {loc : Nat → Nat} {st : List Value} (h : (st.map fun v => v.category).sum ≤ 8) : ((st.map (zv loc)).map fun v => v.category).sum ≤ 8 := by
  rw [zcats]; exact h
theorem Go.copy {idx p q n0 n1 : Nat} {f g : Nat → Int32} {sp dp n : Int32} (hd : decode M.2.1 pc = .ok (.invokestatic idx, 3)) (hl : zcpS M.2.2.2.2.1 idx) (hp : p < w.1) (hwp : w.2 p = .inl (0, n0, .inl f)) (hq : q < w.1) (hwq : w.2 q = .inl (0, n1, .inl g))
    (h1 : ¬ sp < 0) (h2 : ¬ dp < 0) (h3 : ¬ n < 0) (h4 : sp.toNatClampNeg + n.toNatClampNeg ≤ n0) (h5 : dp.toNatClampNeg + n.toNatClampNeg ≤ n1) (hst : (st.map fun v => v.category).sum ≤ 8)
    (k : Go M (d + 1) w0n (pc + 3) lv st (zup w q (.inl (0, n1, .inl (va_cpy f g sp.toNatClampNeg dp.toNatClampNeg n.toNatClampNeg)))) rc rs Q) : Go M (d + 1) w0n pc lv (.int n :: .int dp :: .ref q :: .int sp :: .ref p :: st) w rc rs Q := by
  intro p' l e s m args below meth c dC dI dA loc0 w0 H locs cells slots loc ls hA hH
  have hown := hA.2.2.2.2.1
  rw [hA.2.2.2.2.2.2.2.2.2.2.2.2] at hown
  have hts := hA.2.2.2.2.2.1
  have hroom : ((st.map (zv loc)).map fun v => v.category).sum + (nativeFrameWords "java/lang/System" "arraycopy" 5 + 11) ≤ 60 * (d + 1) := by
    have h9 := zcat_sum (loc := loc) hst
    have e9 : nativeFrameWords "java/lang/System" "arraycopy" 5 ≤ 30 := by decide
    omega
  have hfr : 1 ≤ d + 1 := by omega
  refine va_copyi (R := zRm (d + 1) (zwm M) (zws M)) (D := (dC, dI)) hA.1 hA.2.1 (by rw [hA.2.2.2.1, hH.2.2.2.2.1.1, hH.2.2.2.2.2.1]) hown (hts _ (List.mem_cons_of_mem _ (zcpS_ok hl))) (hts _ (List.mem_cons_of_mem _ zcp_nat)) (hts _ (List.mem_cons_of_mem _ zcp_stat)) (hts _ (List.mem_cons_of_mem _ zcp_ini)) hA.2.2.2.2.2.2.2.1 hH.2.1 hH.2.2.1 hH.2.2.2.1 p q 0 0 (zw_arr hp hwp) (zw_arr hq hwq) (zty_at (by decide)) (zty_at (by decide)) rfl h1 h2 h3 h4 h5 (fun _ _ => rfl) hfr hroom hd (fun H1 locs1 hP hD hS => ?_)
  exact k _ _ _ _ _ _ _ _ _ _ _ _ _ _ _ _ _ _ _ _ hA (hH.heap (w' := zup w q (.inl (0, n1, .inl (va_cpy f g sp.toNatClampNeg dp.toNatClampNeg n.toNatClampNeg)))) rfl (by rw [← zw_set hq]; exact hP) (by rw [← zw_set hq]; exact hD) hS)
theorem Go.mmax {x y : Int32} (hd : decode M.2.1 pc = .ok (.invokestatic 138, 3)) (hl : M.2.2.2.2.1 = 9) (hst : (st.map fun v => v.category).sum ≤ 8) (k : Go M (d + 1) w0n (pc + 3) lv (.int (if x < y then y else x) :: st) w rc rs Q) : Go M (d + 1) w0n pc lv (.int y :: .int x :: st) w rc rs Q := by
  intro p' l e s m args below meth c dC dI dA loc0 w0 H locs cells slots loc ls hA hH
  have hown := hA.2.2.2.2.1
  rw [hA.2.2.2.2.2.2.2.2.2.2.2.2, hl] at hown
  have hts := hA.2.2.2.2.2.1
  have hroom : ((st.map (zv loc)).map fun v => v.category).sum + 13 ≤ 60 * (d + 1) := by
    have h9 := zcat_sum (loc := loc) hst
    omega
  have hfr : 1 ≤ d + 1 := by omega
  have hc9 : cells ≤ zwm M := by have := hH.2.2.2.2.2.2.1; omega
  have hs9 : slots ≤ zws M := by have := hH.2.2.2.2.2.2.2.1; omega
  exact va_mmax (R := zRm (d + 1) (zwm M) (zws M)) hA.1 hA.2.1 (by rw [hA.2.2.2.1, hH.2.2.2.2.1.1, hH.2.2.2.2.2.1]) hown (hts _ (List.mem_cons_of_mem _ zmx_l)) (hts _ (List.mem_cons_of_mem _ zmx_s)) (hts _ (List.mem_cons_of_mem _ zmm_i)) (hts _ (List.mem_cons_of_mem _ zmx_c)) hfr hroom hc9 hs9 hd (k _ _ _ _ _ _ _ _ _ _ _ _ _ _ _ _ _ _ _ _ hA hH)
theorem Go.mmin {x y : Int32} (hd : decode M.2.1 pc = .ok (.invokestatic 79, 3)) (hl : M.2.2.2.2.1 = 9) (hst : (st.map fun v => v.category).sum ≤ 8) (k : Go M (d + 1) w0n (pc + 3) lv (.int (if y < x then y else x) :: st) w rc rs Q) : Go M (d + 1) w0n pc lv (.int y :: .int x :: st) w rc rs Q := by
  intro p' l e s m args below meth c dC dI dA loc0 w0 H locs cells slots loc ls hA hH
  have hown := hA.2.2.2.2.1
  rw [hA.2.2.2.2.2.2.2.2.2.2.2.2, hl] at hown
  have hts := hA.2.2.2.2.2.1
  have hroom : ((st.map (zv loc)).map fun v => v.category).sum + 13 ≤ 60 * (d + 1) := by
    have h9 := zcat_sum (loc := loc) hst
    omega
  have hfr : 1 ≤ d + 1 := by omega
  have hc9 : cells ≤ zwm M := by have := hH.2.2.2.2.2.2.1; omega
  have hs9 : slots ≤ zws M := by have := hH.2.2.2.2.2.2.2.1; omega
  exact va_mmin (R := zRm (d + 1) (zwm M) (zws M)) hA.1 hA.2.1 (by rw [hA.2.2.2.1, hH.2.2.2.2.1.1, hH.2.2.2.2.2.1]) hown (hts _ (List.mem_cons_of_mem _ zmn_l)) (hts _ (List.mem_cons_of_mem _ zmn_s)) (hts _ (List.mem_cons_of_mem _ zmm_i)) (hts _ (List.mem_cons_of_mem _ zmn_c)) hfr hroom hc9 hs9 hd (k _ _ _ _ _ _ _ _ _ _ _ _ _ _ _ _ _ _ _ _ hA hH)
theorem Go.gets {idx j : Nat} (hd : decode M.2.1 pc = .ok (.getstatic idx, 3)) (hj : zGs M.2.2.2.2.1 idx = some j) (k : Go M d w0n (pc + 3) lv (.ref (zB + j) :: st) w rc rs Q) : Go M d w0n pc lv st w rc rs Q := by
  intro p' l e s m args below meth c dC dI dA loc0 w0 H locs cells slots loc ls hA hH
  have hown := hA.2.2.2.2.1
  rw [hA.2.2.2.2.2.2.2.2.2.2.2.2] at hown
  have hts := hA.2.2.2.2.2.1
  have hE := hA.2.2.2.2.2.2.2.2.1
  have hz := hA.2.2.2.2.2.2.2.2.2.2.2.1
  have hlo : loc (zB + j) = loc0 (zB + j) := hH.1 _ (Or.inr (by omega))
  have G := k p' l e s m args below meth c dC dI dA loc0 w0 H locs cells slots loc ls hA hH
  have e0 : ((Value.ref (zB + j) :: st).map (zv loc)) = Value.ref (loc0 (zB + j)) :: st.map (zv loc) := by
    rw [List.map_cons, ← hlo]
    rfl
  rw [e0] at G
  unfold zGs at hj
  split at hj
  · rename_i h; obtain ⟨h8, rfl⟩ := h; cases hj; rw [h8] at hown
    exact va_gets hA.1 hA.2.1 (hE.1 0 (by decide)).1 hH.2.2.2.1 hown (hts _ (List.mem_cons_of_mem _ zgs_0)) (fun _ h => h) hd G
  split at hj
  · rename_i h; obtain ⟨h8, rfl⟩ := h; cases hj; rw [h8] at hown
    exact va_gets hA.1 hA.2.1 (hE.1 1 (by decide)).1 hH.2.2.2.1 hown (hts _ (List.mem_cons_of_mem _ zgs_1)) (fun _ h => h) hd G
  split at hj
  · rename_i h; obtain ⟨h8, rfl⟩ := h; cases hj; rw [h8] at hown
    exact va_getsN hA.1 hA.2.1 (hE.1 2 (by decide)).1 hH.2.2.2.1 hown (va_Nw.use rfl hE.2.2.2.1.2) (fun _ h => h) hd G
  split at hj
  · rename_i h; obtain ⟨h8, rfl⟩ := h; cases hj; rw [h8] at hown
    exact va_getsN hA.1 hA.2.1 (hE.1 3 (by decide)).1 hH.2.2.2.1 hown (va_Nw.use rfl hE.2.2.2.1.1) (fun _ h => h) hd G
  split at hj
  · rename_i h; obtain ⟨h8, rfl⟩ := h; cases hj; rw [h8] at hown
    exact va_gets hA.1 hA.2.1 (hE.1 4 (by decide)).1 hH.2.2.2.1 hown (hts _ (List.mem_cons_of_mem _ zgs_4)) (fun _ h => h) hd G
  split at hj
  · rename_i h; obtain ⟨h8, rfl⟩ := h; cases hj; rw [h8] at hown
    exact va_gets hA.1 hA.2.1 (hE.1 5 (by decide)).1 hH.2.2.2.1 hown (hts _ (List.mem_cons_of_mem _ zgs_5)) (fun _ h => h) hd G
  split at hj
  · rename_i h; obtain ⟨h8, rfl⟩ := h; cases hj; rw [h8] at hown
    exact va_gets hA.1 hA.2.1 (hE.1 6 (by decide)).1 hH.2.2.2.1 hown (hts _ (List.mem_cons_of_mem _ zgs_6)) (fun _ h => h) hd G
  cases hj
theorem Go.sald {j : Nat} {i : Int32} (hd : decode M.2.1 pc = .ok (.iaload, 1)) (hj : j < 7) (hi : vp_in i (zStL j).length) (k : Go M d w0n (pc + 1) lv (.int ((zStL j).getD i.toNatClampNeg 0) :: st) w rc rs Q) : Go M d w0n pc lv (.int i :: .ref (zB + j) :: st) w rc rs Q := by
  intro p' l e s m args below meth c dC dI dA loc0 w0 H locs cells slots loc ls hA hH
  have hE := hA.2.2.2.2.2.2.2.2.1
  have hz := hA.2.2.2.2.2.2.2.2.2.2.2.1
  have hlo : loc (zB + j) = loc0 (zB + j) := hH.1 _ (Or.inr (by omega))
  have e0 : ((Value.int i :: Value.ref (zB + j) :: st).map (zv loc)) = Value.int i :: Value.ref (loc0 (zB + j)) :: st.map (zv loc) := by
    rw [List.map_cons, List.map_cons, ← hlo]
    rfl
  rw [e0]
  exact va_ti hA.1 hA.2.1 (hE.1 j hj).2 hH.2.2.2.1 hi rfl hd (k _ _ _ _ _ _ _ _ _ _ _ _ _ _ _ _ _ _ _ _ hA hH)
end ZJ
/-! String constants -/
def zTx : List String := ["leg", "crew", "fly", "ride", "drop", "late", "cancel", "rule", "pair", "repair", " fly;", " ride;"]
def zStT : List (Nat × Nat × Nat) := [(0, 59, 0), (0, 61, 1), (0, 63, 2), (0, 65, 3), (0, 67, 4), (0, 69, 5), (0, 71, 6), (0, 73, 7), (0, 75, 8), (0, 77, 9), (5, 57, 10), (5, 59, 11), (9, 295, 0), (9, 297, 1), (9, 299, 2), (9, 301, 3), (9, 303, 4), (9, 305, 5), (9, 307, 6), (9, 309, 7), (9, 311, 8), (9, 313, 9), (9, 274, 10), (9, 276, 11)]
def zSt (o idx : Nat) : Option Nat := (zStT.find? (fun q => q.1 == o && q.2.1 == idx)).map (fun q => q.2.2)
theorem ss_0_59 : zSt 0 59 = some 0 := by decide +kernel
theorem ss_0_61 : zSt 0 61 = some 1 := by decide +kernel
theorem ss_0_63 : zSt 0 63 = some 2 := by decide +kernel
theorem ss_0_65 : zSt 0 65 = some 3 := by decide +kernel
theorem ss_0_67 : zSt 0 67 = some 4 := by decide +kernel
theorem ss_0_69 : zSt 0 69 = some 5 := by decide +kernel
theorem ss_0_71 : zSt 0 71 = some 6 := by decide +kernel
theorem ss_0_73 : zSt 0 73 = some 7 := by decide +kernel
theorem ss_0_75 : zSt 0 75 = some 8 := by decide +kernel
theorem ss_0_77 : zSt 0 77 = some 9 := by decide +kernel
theorem ss_5_57 : zSt 5 57 = some 10 := by decide +kernel
theorem ss_5_59 : zSt 5 59 = some 11 := by decide +kernel
theorem ss_9_295 : zSt 9 295 = some 0 := by decide +kernel
theorem ss_9_297 : zSt 9 297 = some 1 := by decide +kernel
theorem ss_9_299 : zSt 9 299 = some 2 := by decide +kernel
theorem ss_9_301 : zSt 9 301 = some 3 := by decide +kernel
theorem ss_9_303 : zSt 9 303 = some 4 := by decide +kernel
theorem ss_9_305 : zSt 9 305 = some 5 := by decide +kernel
theorem ss_9_307 : zSt 9 307 = some 6 := by decide +kernel
theorem ss_9_309 : zSt 9 309 = some 7 := by decide +kernel
theorem ss_9_311 : zSt 9 311 = some 8 := by decide +kernel
theorem ss_9_313 : zSt 9 313 = some 9 := by decide +kernel
theorem ss_9_274 : zSt 9 274 = some 10 := by decide +kernel
theorem ss_9_276 : zSt 9 276 = some 11 := by decide +kernel
theorem zStT_ok : ∀ q ∈ zStT, (zRn q.1, q.2.1, zTx.getD q.2.2 "", q.2.2) ∈ zStr ∧ q.2.2 < 12 := by decide +kernel
theorem zSt_ok {o idx j : Nat} (h : zSt o idx = some j) : (zRn o, idx, zTx.getD j "", j) ∈ zStr ∧ j < 12 := by
  unfold zSt at h
  cases hf : zStT.find? (fun q => q.1 == o && q.2.1 == idx) with
  | none => rw [hf] at h; cases h
  | some q =>
    rw [hf] at h
    have h1 := List.find?_some hf
    have h2 := List.mem_of_find?_eq_some hf
    simp only [Option.map_some, Option.some.injEq] at h
    simp only [Bool.and_eq_true, beq_iff_eq] at h1
    obtain ⟨rfl, rfl⟩ := h1
    subst h
    exact zStT_ok q h2
section ZJS
variable {M : zMth} {d w0n pc : Nat} {lv : List (Option Value)} {st : List Value} {w : zWd} {rc rs : Nat} {Q : Option Value → zWd → Prop}
theorem zS_ge {n j : Nat} (h : n ≤ zB) : n ≤ zS + j := Nat.le_trans h (Nat.le_trans (show zB ≤ zS from Nat.le_of_ble_eq_true rfl) (Nat.le_add_right _ _))
theorem zV_ge {n j : Nat} (h : n ≤ zB) : n ≤ zV + j := Nat.le_trans h (Nat.le_trans (show zB ≤ zV from Nat.le_of_ble_eq_true rfl) (Nat.le_add_right _ _))
theorem zF_ge {n : Nat} (h : n ≤ zB) : n ≤ zFm := Nat.le_trans h (show zB ≤ zFm from Nat.le_of_ble_eq_true rfl)
theorem Go.zown {p : Program} {s : State} {m : MethodId} {args : Array Value} {meth : Method} {c : Code} {dC : Nat → ClassId} {dI : Nat → Nat → Nat} {dA : Nat → ClassId} {loc0 : Nat → Nat} {w0 : zWd} (hA : zAct M w0n p s m args meth c dC dI dA loc0 w0) : s.vm.findClass (zRn M.2.2.2.2.1) = some m.cls := by
  have hown := hA.2.2.2.2.1
  rw [hA.2.2.2.2.2.2.2.2.2.2.2.2] at hown
  exact hown
theorem Go.zlocS {j : Nat} {p : Program} {s : State} {m : MethodId} {args : Array Value} {meth : Method} {c : Code} {dC : Nat → ClassId} {dI : Nat → Nat → Nat} {dA : Nat → ClassId} {loc0 : Nat → Nat} {w0 : zWd} {H : Heap} {locs : List Loc} {cells slots : Nat} {loc : Nat → Nat} {ls : Array Slot}
    (hA : zAct M w0n p s m args meth c dC dI dA loc0 w0) (hH : zHere M w0n s dC dI dA loc0 w0 H locs cells slots loc ls lv w rc rs) : loc (zS + j) = loc0 (zS + j) := hH.1 _ (Or.inr (zS_ge hA.2.2.2.2.2.2.2.2.2.2.2.1))
theorem Go.zlocV {j : Nat} {p : Program} {s : State} {m : MethodId} {args : Array Value} {meth : Method} {c : Code} {dC : Nat → ClassId} {dI : Nat → Nat → Nat} {dA : Nat → ClassId} {loc0 : Nat → Nat} {w0 : zWd} {H : Heap} {locs : List Loc} {cells slots : Nat} {loc : Nat → Nat} {ls : Array Slot}
    (hA : zAct M w0n p s m args meth c dC dI dA loc0 w0) (hH : zHere M w0n s dC dI dA loc0 w0 H locs cells slots loc ls lv w rc rs) : loc (zV + j) = loc0 (zV + j) := hH.1 _ (Or.inr (zV_ge hA.2.2.2.2.2.2.2.2.2.2.2.1))
theorem Go.zlocF {p : Program} {s : State} {m : MethodId} {args : Array Value} {meth : Method} {c : Code} {dC : Nat → ClassId} {dI : Nat → Nat → Nat} {dA : Nat → ClassId} {loc0 : Nat → Nat} {w0 : zWd} {H : Heap} {locs : List Loc} {cells slots : Nat} {loc : Nat → Nat} {ls : Array Slot}
    (hA : zAct M w0n p s m args meth c dC dI dA loc0 w0) (hH : zHere M w0n s dC dI dA loc0 w0 H locs cells slots loc ls lv w rc rs) : loc zFm = loc0 zFm := hH.1 _ (Or.inr (zF_ge hA.2.2.2.2.2.2.2.2.2.2.2.1))
theorem zmap_ref {loc : Nat → Nat} {q a : Nat} {st : List Value} (h : loc q = a) : (Value.ref q :: st).map (zv loc) = Value.ref a :: st.map (zv loc) := by
  rw [← h]; rfl
theorem zvkR {loc : Nat → Nat} {U : State} (h : ∀ q ∈ zStr, vk_R q.1 q.2.1 q.2.2.1 (loc (zS + q.2.2.2)) U) {own tx : String} {idx j : Nat} (hm : (own, idx, tx, j) ∈ zStr) : vk_R own idx tx (loc (zS + j)) U := h _ hm
theorem Go.ldcw {idx j : Nat} (hd : decode M.2.1 pc = .ok (.ldc_w idx, 3)) (hj : zSt M.2.2.2.2.1 idx = some j) (k : Go M d w0n (pc + 3) lv (.ref (zS + j) :: st) w rc rs Q) : Go M d w0n pc lv st w rc rs Q := by
  intro p' l e s m args below meth c dC dI dA loc0 w0 H locs cells slots loc ls hA hH
  have hZ := zvkR hA.2.2.2.2.2.2.2.2.1.2.1 (zSt_ok hj).1
  have G := k p' l e s m args below meth c dC dI dA loc0 w0 H locs cells slots loc ls hA hH
  rw [zmap_ref (Go.zlocS hA hH)] at G
  intro T hT X
  obtain ⟨t, a1, b1⟩ := G T hT X
  exact ⟨t, X.ldcStringW hA.1 (Go.zown hA) hZ.1 hZ.2 (g := F0 m pc ls (st.map (zv loc))) rfl (by rw [hA.2.1]; exact hd) t a1, b1⟩
theorem Go.ldcs {idx j : Nat} (hd : decode M.2.1 pc = .ok (.ldc idx, 2)) (hj : zSt M.2.2.2.2.1 idx = some j) (k : Go M d w0n (pc + 2) lv (.ref (zS + j) :: st) w rc rs Q) : Go M d w0n pc lv st w rc rs Q := by
  intro p' l e s m args below meth c dC dI dA loc0 w0 H locs cells slots loc ls hA hH
  have hZ := zvkR hA.2.2.2.2.2.2.2.2.1.2.1 (zSt_ok hj).1
  have G := k p' l e s m args below meth c dC dI dA loc0 w0 H locs cells slots loc ls hA hH
  rw [zmap_ref (Go.zlocS hA hH)] at G
  exact va_ldcS hA.1 hA.2.1 (Go.zown hA) hZ hd G
end ZJS
