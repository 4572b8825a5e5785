/-! the JDK's own: arraycopy, max, min; statics -/
def zcpS (o idx : Nat) : Prop := (o = 3 ∧ idx = 50) ∨ (o = 9 ∧ idx = 53) ∨ (o = 7 ∧ idx = 91)
theorem zcpS_ok {o idx : Nat} (h : zcpS o idx) : Cond.methodLink (zRn o) idx arraycopyName ∈ wsL_law := by
  rcases h with ⟨rfl, rfl⟩ | ⟨rfl, rfl⟩ | ⟨rfl, rfl⟩
  · exact zr_3 _ (List.mem_of_getElem? (i := 16) rfl)
  · exact zr_6 _ (List.mem_of_getElem? (i := 19) rfl)
  · exact zr_38 _ (List.mem_of_getElem? (i := 1) rfl)
theorem zcp_nat : Cond.native arraycopyName ∈ wsL_law := zr_3 _ (List.mem_of_getElem? (i := 17) rfl)
theorem zcp_stat : Cond.static arraycopyName ∈ wsL_law := zr_3 _ (List.mem_of_getElem? (i := 18) rfl)
theorem zcp_ini : Cond.initialized "java/lang/System" ∈ wsL_law := zr_3 _ (List.mem_of_getElem? (i := 19) rfl)
theorem zmx_l : Cond.methodLink (zRn 9) 138 Lib.Math.max.name ∈ wsL_law := zr_19 _ (List.mem_of_getElem? (i := 10) rfl)
theorem zmx_s : Cond.static Lib.Math.max.name ∈ wsL_law := zr_19 _ (List.mem_of_getElem? (i := 11) rfl)
theorem zmx_c : Cond.code Lib.Math.max.name Lib.Math.max.code 2 (some .int) ∈ wsL_law := zr_19 _ (List.mem_of_getElem? (i := 12) rfl)
theorem zmn_l : Cond.methodLink (zRn 9) 79 Lib.Math.min.name ∈ wsL_law := zr_8 _ (List.mem_of_getElem? (i := 18) rfl)
theorem zmn_s : Cond.static Lib.Math.min.name ∈ wsL_law := zr_8 _ (List.mem_of_getElem? (i := 19) rfl)
theorem zmn_c : Cond.code Lib.Math.min.name Lib.Math.min.code 2 (some .int) ∈ wsL_law := zr_8 _ (List.mem_of_getElem? (i := 21) rfl)
theorem zmm_i : Cond.initialized "java/lang/Math" ∈ wsL_law := zr_8 _ (List.mem_of_getElem? (i := 20) rfl)
theorem zgs_0 : Cond.fieldLink (zRn 8) 311 "CrewPairer" "RULE_LEAST" "[I" ∈ wsL_law := zr_12 _ (List.mem_of_getElem? (i := 20) rfl)
theorem zgs_1 : Cond.fieldLink (zRn 8) 314 "CrewPairer" "RULE_MOST" "[I" ∈ wsL_law := zr_12 _ (List.mem_of_getElem? (i := 21) rfl)
theorem zgs_4 : Cond.fieldLink (zRn 9) 108 "CrewPairerModel" "LEAST" "[I" ∈ wsL_law := zr_13 _ (List.mem_of_getElem? (i := 3) rfl)
theorem zgs_5 : Cond.fieldLink (zRn 9) 111 "CrewPairerModel" "MOST" "[I" ∈ wsL_law := zr_13 _ (List.mem_of_getElem? (i := 4) rfl)
theorem zgs_6 : Cond.fieldLink (zRn 9) 50 "CrewPairerModel" "FIRST" "[I" ∈ wsL_law := zr_6 _ (List.mem_of_getElem? (i := 18) rfl)
/-- which static a getstatic reads -/
def zGs (o idx : Nat) : Option Nat := if o = 8 ∧ idx = 311 then some 0 else if o = 8 ∧ idx = 314 then some 1 else if o = 3 ∧ idx = 47 then some 2 else if o = 0 ∧ idx = 44 then some 3 else if o = 9 ∧ idx = 108 then some 4 else if o = 9 ∧ idx = 111 then some 5 else if o = 9 ∧ idx = 50 then some 6 else none
theorem gs_8_311 : zGs 8 311 = some 0 := rfl
theorem gs_8_314 : zGs 8 314 = some 1 := rfl
theorem gs_3_47 : zGs 3 47 = some 2 := rfl
theorem gs_0_44 : zGs 0 44 = some 3 := rfl
theorem gs_9_108 : zGs 9 108 = some 4 := rfl
theorem gs_9_111 : zGs 9 111 = some 5 := rfl
theorem gs_9_50 : zGs 9 50 = some 6 := rfl
section ZJ
variable {M : zMth} {d w0n pc : Nat} {lv : List (Option Value)} {st : List Value} {w : zWd} {rc rs : Nat} {Q : Option Value → zWd → Prop}
theorem zcat_sum {loc : Nat → Nat} {st : List Value} (h : (st.map fun v => v.category).sum ≤ 8) : ((st.map (zv loc)).map fun v => v.category).sum ≤ 8 := by
  rw [zcats]; exact h
theorem Go.copy {idx p q n0 n1 : Nat} {f g : Nat → Int32} {sp dp n : Int32} (hd : decode M.2.1 pc = .ok (.invokestatic idx, 3)) (hl : zcpS M.2.2.2.2.1 idx) (hp : p < w.1) (hwp : w.2 p = .inl (0, n0, .inl f)) (hq : q < w.1) (hwq : w.2 q = .inl (0, n1, .inl g))
    (h1 : ¬ sp < 0) (h2 : ¬ dp < 0) (h3 : ¬ n < 0) (h4 : sp.toNatClampNeg + n.toNatClampNeg ≤ n0) (h5 : dp.toNatClampNeg + n.toNatClampNeg ≤ n1) (hst : (st.map fun v => v.category).sum ≤ 8)
    (k : Go M (d + 1) w0n (pc + 3) lv st (zup w q (.inl (0, n1, .inl (va_cpy f g sp.toNatClampNeg dp.toNatClampNeg n.toNatClampNeg)))) rc rs Q) : Go M (d + 1) w0n pc lv (.int n :: .int dp :: .ref q :: .int sp :: .ref p :: st) w rc rs Q := by
  intro p' l e s m args below meth c dC dI dA loc0 w0 H locs cells slots loc ls hA hH
  have hown := hA.2.2.2.2.1
  rw [hA.2.2.2.2.2.2.2.2.2.2.2.2] at hown
  have hts := hA.2.2.2.2.2.1
  have hroom : ((st.map (zv loc)).map fun v => v.category).sum + (nativeFrameWords "java/lang/System" "arraycopy" 5 + 11) ≤ 60 * (d + 1) := by
    have h9 := zcat_sum (loc := loc) hst
    have e9 : nativeFrameWords "java/lang/System" "arraycopy" 5 ≤ 30 := by decide
    omega
  have hfr : 1 ≤ d + 1 := by omega
  refine va_copyi (R := zRm (d + 1) (zwm M) (zws M)) (D := (dC, dI)) hA.1 hA.2.1 (by rw [hA.2.2.2.1, hH.2.2.2.2.1.1, hH.2.2.2.2.2.1]) hown (hts _ (List.mem_cons_of_mem _ (zcpS_ok hl))) (hts _ (List.mem_cons_of_mem _ zcp_nat)) (hts _ (List.mem_cons_of_mem _ zcp_stat)) (hts _ (List.mem_cons_of_mem _ zcp_ini)) hA.2.2.2.2.2.2.2.1 hH.2.1 hH.2.2.1 hH.2.2.2.1 p q 0 0 (zw_arr hp hwp) (zw_arr hq hwq) (zty_at (by decide)) (zty_at (by decide)) rfl h1 h2 h3 h4 h5 (fun _ _ => rfl) hfr hroom hd (fun H1 locs1 hP hD hS => ?_)
  exact k _ _ _ _ _ _ _ _ _ _ _ _ _ _ _ _ _ _ _ _ hA (hH.heap (w' := zup w q (.inl (0, n1, .inl (va_cpy f g sp.toNatClampNeg dp.toNatClampNeg n.toNatClampNeg)))) rfl (by rw [← zw_set hq]; exact hP) (by rw [← zw_set hq]; exact hD) hS)
theorem Go.mmax {x y : Int32} (hd : decode M.2.1 pc = .ok (.invokestatic 138, 3)) (hl : M.2.2.2.2.1 = 9) (hst : (st.map fun v => v.category).sum ≤ 8) (k : Go M (d + 1) w0n (pc + 3) lv (.int (if x < y then y else x) :: st) w rc rs Q) : Go M (d + 1) w0n pc lv (.int y :: .int x :: st) w rc rs Q := by
  intro p' l e s m args below meth c dC dI dA loc0 w0 H locs cells slots loc ls hA hH
  have hown := hA.2.2.2.2.1
  rw [hA.2.2.2.2.2.2.2.2.2.2.2.2, hl] at hown
  have hts := hA.2.2.2.2.2.1
  have hroom : ((st.map (zv loc)).map fun v => v.category).sum + 13 ≤ 60 * (d + 1) := by
    have h9 := zcat_sum (loc := loc) hst
    omega
  have hfr : 1 ≤ d + 1 := by omega
  have hc9 : cells ≤ zwm M := by have := hH.2.2.2.2.2.2.1; omega
  have hs9 : slots ≤ zws M := by have := hH.2.2.2.2.2.2.2.1; omega
  exact va_mmax (R := zRm (d + 1) (zwm M) (zws M)) hA.1 hA.2.1 (by rw [hA.2.2.2.1, hH.2.2.2.2.1.1, hH.2.2.2.2.2.1]) hown (hts _ (List.mem_cons_of_mem _ zmx_l)) (hts _ (List.mem_cons_of_mem _ zmx_s)) (hts _ (List.mem_cons_of_mem _ zmm_i)) (hts _ (List.mem_cons_of_mem _ zmx_c)) hfr hroom hc9 hs9 hd (k _ _ _ _ _ _ _ _ _ _ _ _ _ _ _ _ _ _ _ _ hA hH)
theorem Go.mmin {x y : Int32} (hd : decode M.2.1 pc = .ok (.invokestatic 79, 3)) (hl : M.2.2.2.2.1 = 9) (hst : (st.map fun v => v.category).sum ≤ 8) (k : Go M (d + 1) w0n (pc + 3) lv (.int (if y < x then y else x) :: st) w rc rs Q) : Go M (d + 1) w0n pc lv (.int y :: .int x :: st) w rc rs Q := by
  intro p' l e s m args below meth c dC dI dA loc0 w0 H locs cells slots loc ls hA hH
  have hown := hA.2.2.2.2.1
  rw [hA.2.2.2.2.2.2.2.2.2.2.2.2, hl] at hown
  have hts := hA.2.2.2.2.2.1
  have hroom : ((st.map (zv loc)).map fun v => v.category).sum + 13 ≤ 60 * (d + 1) := by
    have h9 := zcat_sum (loc := loc) hst
    omega
  have hfr : 1 ≤ d + 1 := by omega
  have hc9 : cells ≤ zwm M := by have := hH.2.2.2.2.2.2.1; omega
  have hs9 : slots ≤ zws M := by have := hH.2.2.2.2.2.2.2.1; omega
  exact va_mmin (R := zRm (d + 1) (zwm M) (zws M)) hA.1 hA.2.1 (by rw [hA.2.2.2.1, hH.2.2.2.2.1.1, hH.2.2.2.2.2.1]) hown (hts _ (List.mem_cons_of_mem _ zmn_l)) (hts _ (List.mem_cons_of_mem _ zmn_s)) (hts _ (List.mem_cons_of_mem _ zmm_i)) (hts _ (List.mem_cons_of_mem _ zmn_c)) hfr hroom hc9 hs9 hd (k _ _ _ _ _ _ _ _ _ _ _ _ _ _ _ _ _ _ _ _ hA hH)
theorem Go.gets {idx j : Nat} (hd : decode M.2.1 pc = .ok (.getstatic idx, 3)) (hj : zGs M.2.2.2.2.1 idx = some j) (k : Go M d w0n (pc + 3) lv (.ref (zB + j) :: st) w rc rs Q) : Go M d w0n pc lv st w rc rs Q := by
  intro p' l e s m args below meth c dC dI dA loc0 w0 H locs cells slots loc ls hA hH
  have hown := hA.2.2.2.2.1
  rw [hA.2.2.2.2.2.2.2.2.2.2.2.2] at hown
  have hts := hA.2.2.2.2.2.1
  have hE := hA.2.2.2.2.2.2.2.2.1
  have hz := hA.2.2.2.2.2.2.2.2.2.2.2.1
  have hlo : loc (zB + j) = loc0 (zB + j) := hH.1 _ (Or.inr (by omega))
  have G := k p' l e s m args below meth c dC dI dA loc0 w0 H locs cells slots loc ls hA hH
  have e0 : ((Value.ref (zB + j) :: st).map (zv loc)) = Value.ref (loc0 (zB + j)) :: st.map (zv loc) := by
    rw [List.map_cons, ← hlo]
    rfl
  rw [e0] at G
  unfold zGs at hj
  split at hj
  · rename_i h; obtain ⟨h8, rfl⟩ := h; cases hj; rw [h8] at hown
    exact va_gets hA.1 hA.2.1 (hE.1 0 (by decide)).1 hH.2.2.2.1 hown (hts _ (List.mem_cons_of_mem _ zgs_0)) (fun _ h => h) hd G
  split at hj
  · rename_i h; obtain ⟨h8, rfl⟩ := h; cases hj; rw [h8] at hown
    exact va_gets hA.1 hA.2.1 (hE.1 1 (by decide)).1 hH.2.2.2.1 hown (hts _ (List.mem_cons_of_mem _ zgs_1)) (fun _ h => h) hd G
  split at hj
  · rename_i h; obtain ⟨h8, rfl⟩ := h; cases hj; rw [h8] at hown
    exact va_getsN hA.1 hA.2.1 (hE.1 2 (by decide)).1 hH.2.2.2.1 hown (va_Nw.use rfl hE.2.2.2.1.2) (fun _ h => h) hd G
  split at hj
  · rename_i h; obtain ⟨h8, rfl⟩ := h; cases hj; rw [h8] at hown
    exact va_getsN hA.1 hA.2.1 (hE.1 3 (by decide)).1 hH.2.2.2.1 hown (va_Nw.use rfl hE.2.2.2.1.1) (fun _ h => h) hd G
  split at hj
  · rename_i h; obtain ⟨h8, rfl⟩ := h; cases hj; rw [h8] at hown
    exact va_gets hA.1 hA.2.1 (hE.1 4 (by decide)).1 hH.2.2.2.1 hown (hts _ (List.mem_cons_of_mem _ zgs_4)) (fun _ h => h) hd G
  split at hj
  · rename_i h; obtain ⟨h8, rfl⟩ := h; cases hj; rw [h8] at hown
    exact va_gets hA.1 hA.2.1 (hE.1 5 (by decide)).1 hH.2.2.2.1 hown (hts _ (List.mem_cons_of_mem _ zgs_5)) (fun _ h => h) hd G
  split at hj
  · rename_i h; obtain ⟨h8, rfl⟩ := h; cases hj; rw [h8] at hown
    exact va_gets hA.1 hA.2.1 (hE.1 6 (by decide)).1 hH.2.2.2.1 hown (hts _ (List.mem_cons_of_mem _ zgs_6)) (fun _ h => h) hd G
  cases hj
theorem Go.sald {j : Nat} {i : Int32} (hd : decode M.2.1 pc = .ok (.iaload, 1)) (hj : j < 7) (hi : vp_in i (zStL j).length) (k : Go M d w0n (pc + 1) lv (.int ((zStL j).getD i.toNatClampNeg 0) :: st) w rc rs Q) : Go M d w0n pc lv (.int i :: .ref (zB + j) :: st) w rc rs Q := by
  intro p' l e s m args below meth c dC dI dA loc0 w0 H locs cells slots loc ls hA hH
  have hE := hA.2.2.2.2.2.2.2.2.1
  have hz := hA.2.2.2.2.2.2.2.2.2.2.2.1
  have hlo : loc (zB + j) = loc0 (zB + j) := hH.1 _ (Or.inr (by omega))
  have e0 : ((Value.int i :: Value.ref (zB + j) :: st).map (zv loc)) = Value.int i :: Value.ref (loc0 (zB + j)) :: st.map (zv loc) := by
    rw [List.map_cons, List.map_cons, ← hlo]
    rfl
  rw [e0]
  exact va_ti hA.1 hA.2.1 (hE.1 j hj).2 hH.2.2.2.1 hi rfl hd (k _ _ _ _ _ _ _ _ _ _ _ _ _ _ _ _ _ _ _ _ hA hH)
end ZJ
