/-! String.length and charAt of the constants: the JDK's own bodies, walked once -/
def zstLen (j : Nat) : Nat := zLen.getD j 0
def zstCh (j k : Nat) : Int := ((zByt.getD j []).getD k 0).toInt
section ZST
variable {M : zMth} {d w0n pc : Nat} {lv : List (Option Value)} {st : List Value} {w : zWd} {rc rs : Nat} {Q : Option Value → zWd → Prop}
theorem Go.zenv {p : Program} {s : State} {m : MethodId} {args : Array Value} {meth : Method} {c : Code} {dC : Nat → ClassId} {dI : Nat → Nat → Nat} {dA : Nat → ClassId} {loc0 : Nat → Nat} {w0 : zWd} (hA : zAct M w0n p s m args meth c dC dI dA loc0 w0) : zEnv loc0 (zA dA loc0 w0 s.heap.size) s s.heap := hA.2.2.2.2.2.2.2.2.1
theorem Go.zts {p : Program} {s : State} {m : MethodId} {args : Array Value} {meth : Method} {c : Code} {dC : Nat → ClassId} {dI : Nat → Nat → Nat} {dA : Nat → ClassId} {loc0 : Nat → Nat} {w0 : zWd} (hA : zAct M w0n p s m args meth c dC dI dA loc0 w0) {x : Cond} (h : x ∈ wsL_law) : x.before args s = true := hA.2.2.2.2.2.1 _ (List.mem_cons_of_mem _ h)
theorem Go.sgetV {idx j : Nat} (hd : decode M.2.1 pc = .ok (.getfield idx, 3)) (hl : Cond.fieldLink (zRn M.2.2.2.2.1) idx "java/lang/String" "value" "[B" ∈ wsL_law) (hj : j < 12) (k : Go M d w0n (pc + 3) lv (.ref (zV + j) :: st) w rc rs Q) : Go M d w0n pc lv (.ref (zS + j) :: st) w rc rs Q := by
  intro p' l e s m args below meth c dC dI dA loc0 w0 H locs cells slots loc ls hA hH
  have G := k p' l e s m args below meth c dC dI dA loc0 w0 H locs cells slots loc ls hA hH
  rw [zmap_ref (Go.zlocV hA hH)] at G
  rw [zmap_ref (Go.zlocS hA hH)]
  exact vk_getf hA.1 hA.2.1 ((Go.zenv hA).2.2.1.1.1 j hj).2.2.1 hH.2.2.2.1 (Go.zown hA) (Go.zts hA hl) (fun _ h => h) hd G
theorem Go.sgetC {idx j : Nat} (hd : decode M.2.1 pc = .ok (.getfield idx, 3)) (hl : Cond.fieldLink (zRn M.2.2.2.2.1) idx "java/lang/String" "coder" "B" ∈ wsL_law) (hj : j < 12) (k : Go M d w0n (pc + 3) lv (.int 0 :: st) w rc rs Q) : Go M d w0n pc lv (.ref (zS + j) :: st) w rc rs Q := by
  intro p' l e s m args below meth c dC dI dA loc0 w0 H locs cells slots loc ls hA hH
  have G := k p' l e s m args below meth c dC dI dA loc0 w0 H locs cells slots loc ls hA hH
  rw [zmap_ref (Go.zlocS hA hH)]
  exact vk_getf hA.1 hA.2.1 ((Go.zenv hA).2.2.1.1.1 j hj).2.1 hH.2.2.2.1 (Go.zown hA) (Go.zts hA hl) (fun _ h => h) hd G
theorem Go.vlen {j : Nat} (hd : decode M.2.1 pc = .ok (.arraylength, 1)) (hj : j < 12) (k : Go M d w0n (pc + 1) lv (.int (Int32.ofNat (zstLen j)) :: st) w rc rs Q) : Go M d w0n pc lv (.ref (zV + j) :: st) w rc rs Q := by
  intro p' l e s m args below meth c dC dI dA loc0 w0 H locs cells slots loc ls hA hH
  have G := k p' l e s m args below meth c dC dI dA loc0 w0 H locs cells slots loc ls hA hH
  rw [zmap_ref (Go.zlocV hA hH)]
  exact va_tlen hA.1 hA.2.1 ((Go.zenv hA).2.2.1.1.1 j hj).2.2.2 hH.2.2.2.1 rfl hd G
theorem Go.vald {j : Nat} {i : Int32} (hd : decode M.2.1 pc = .ok (.baload, 1)) (hj : j < 12) (hi : vp_in i (zstLen j)) (k : Go M d w0n (pc + 1) lv (.int ((zByt.getD j []).getD i.toNatClampNeg 0) :: st) w rc rs Q) : Go M d w0n pc lv (.int i :: .ref (zV + j) :: st) w rc rs Q := by
  intro p' l e s m args below meth c dC dI dA loc0 w0 H locs cells slots loc ls hA hH
  have G := k p' l e s m args below meth c dC dI dA loc0 w0 H locs cells slots loc ls hA hH
  rw [List.map_cons, zmap_ref (Go.zlocV hA hH)]
  exact va_tb hA.1 hA.2.1 ((Go.zenv hA).2.2.1.1.1 j hj).2.2.2 hH.2.2.2.1 hi rfl hd G
theorem Go.sCS {idx : Nat} (hd : decode M.2.1 pc = .ok (.getstatic idx, 3)) (hl : Cond.fieldLink (zRn M.2.2.2.2.1) idx "java/lang/String" "COMPACT_STRINGS" "Z" ∈ wsL_law) (k : Go M d w0n (pc + 3) lv (.int 1 :: st) w rc rs Q) : Go M d w0n pc lv st w rc rs Q := by
  intro p' l e s m args below meth c dC dI dA loc0 w0 H locs cells slots loc ls hA hH
  exact va_gets hA.1 hA.2.1 (Go.zenv hA).2.2.1.2.1 hH.2.2.2.1 (Go.zown hA) (Go.zts hA hl) (fun _ h => h) hd (k p' l e s m args below meth c dC dI dA loc0 w0 H locs cells slots loc ls hA hH)
theorem Go.sFM {idx : Nat} (hd : decode M.2.1 pc = .ok (.getstatic idx, 3)) (hl : Cond.fieldLink (zRn M.2.2.2.2.1) idx "jdk/internal/util/Preconditions" "SIOOBE_FORMATTER" "Ljava/util/function/BiFunction;" ∈ wsL_law) (k1 : Go M d w0n (pc + 3) lv (.ref zFm :: st) w rc rs Q) (k2 : Go M d w0n (pc + 3) lv (.null :: st) w rc rs Q) : Go M d w0n pc lv st w rc rs Q := by
  intro p' l e s m args below meth c dC dI dA loc0 w0 H locs cells slots loc ls hA hH
  rcases (Go.zenv hA).2.2.1.2.2 with h | h
  · have G := k1 p' l e s m args below meth c dC dI dA loc0 w0 H locs cells slots loc ls hA hH
    rw [zmap_ref (Go.zlocF hA hH)] at G
    exact va_gets hA.1 hA.2.1 h hH.2.2.2.1 (Go.zown hA) (Go.zts hA hl) (fun _ h => h) hd G
  · exact va_gets hA.1 hA.2.1 h hH.2.2.2.1 (Go.zown hA) (Go.zts hA hl) (fun _ h => h) hd (k2 p' l e s m args below meth c dC dI dA loc0 w0 H locs cells slots loc ls hA hH)
theorem Go.ishr {x y : Int32} (hd : decode M.2.1 pc = .ok (.ishr, 1)) (k : Go M d w0n (pc + 1) lv (.int (x >>> (y &&& 31)) :: st) w rc rs Q) : Go M d w0n pc lv (.int y :: .int x :: st) w rc rs Q := by
  intro p' l e s m args below meth c dC dI dA loc0 w0 H locs cells slots loc ls hA hH
  exact lv_ishr hA.1 hA.2.1 hd (k p' l e s m args below meth c dC dI dA loc0 w0 H locs cells slots loc ls hA hH)
theorem Go.pop {v : Value} (hd : decode M.2.1 pc = .ok (.pop, 1)) (hv : v.category = 1) (k : Go M d w0n (pc + 1) lv st w rc rs Q) : Go M d w0n pc lv (v :: st) w rc rs Q := by
  intro p' l e s m args below meth c dC dI dA loc0 w0 H locs cells slots loc ls hA hH
  exact lv_pop hA.1 hA.2.1 hd (by rw [zv_cat]; exact hv) (k p' l e s m args below meth c dC dI dA loc0 w0 H locs cells slots loc ls hA hH)
/-- a static method, of any class -/
theorem Go.callST {idx n : Nat} {q : zMth} {As rest : List Value} (hd : decode M.2.1 pc = .ok (.invokestatic idx, 3)) (hl : Cond.methodLink (zRn M.2.2.2.2.1) idx q.1 ∈ wsL_law) (hs : Cond.static q.1 ∈ wsL_law) (hi : Cond.initialized q.1.cls ∈ wsL_law) (hc : zWd0 q ∈ wsL_law)
    (hdd : q.1.cls ≠ "java/lang/invoke/MethodHandle" ∧ q.1.cls ≠ "java/lang/invoke/VarHandle" ∧ (parseMethodDescriptor q.1.desc).map (fun d => d.parameters.length) = some n) (hm : q.2.2.1 ≤ 41) (h0 : zwm q = 0) (h1 : zws q = 0) (hn : As.length = n) (hrest : (rest.map fun v => v.category).sum ≤ 8)
    (g : MOk d q As w (fun r w' => Go M (d + 1) w0n (pc + 3) lv (r.toList ++ rest) w' rc rs Q)) : Go M (d + 1) w0n pc lv (As.reverse ++ rest) w rc rs Q := by
  intro p l e s m args below meth c dC dI dA loc0 w0 H locs cells slots loc ls hA hH
  have hz : w.1 + zwm q ≤ zB := by
    have := hA.2.2.2.2.2.2.2.2.2.2.2.1
    have := hH.2.2.2.2.2.2.2.2.2
    omega
  have hMet := g hz l dC dI dA loc H.size
  have hst : (As.reverse ++ rest).map (zv loc) = (As.map (zv loc)).reverse ++ rest.map (zv loc) := by
    rw [List.map_append, List.map_reverse]
  rw [hst]
  refine Go.cont (q := q) (Qk := _) (rest := rest) (lv := lv) (rc := rc) (rs := rs) hA hH (by omega) (by omega) (Or.inl h0) (Or.inl h0) (va_runS (As := As.map (zv loc)) ⟨hA.1, hA.2.1, hA.2.2.2.1, Go.zown hA, hA.2.2.2.2.2.1⟩ hMet ⟨callB_of (ws' := wsL_law) (bytes := q.2.1) (maxL := q.2.2.1) (ret := q.2.2.2.1) n hA.2.2.2.2.2.1 (zgoodIn (fun x hx => ?_)) rfl rfl rfl (Go.zts hA hi) (Go.zts hA hl) hdd (zroom hm), Go.zts hA hs⟩ ⟨zPre_blind, fun U hU hW => ⟨rfl, hH.pre hA U hU hW⟩⟩ rfl (by rw [List.length_map]; exact hn) (hH.2.2.2.2.1.1.trans hH.2.2.2.2.2.1) rfl (lv_room (by rw [zcats]; exact hrest)) hd ⟨?_, ?_⟩) (fun r w' h => by rw [h0, h1]; exact h)
  · rcases List.mem_cons.mp hx with rfl | hx
    · exact hc
    · exact hx
  · have := hH.2.2.2.2.2.2.1
    show cells + zwm q ≤ zwm M
    omega
  · have := hH.2.2.2.2.2.2.2.1
    show slots + zws q ≤ zws M
    omega
/-- a method of String, of a String constant -/
theorem Go.callSV {idx n j : Nat} {q : zMth} {As rest : List Value} (hd : decode M.2.1 pc = .ok (.invokevirtual idx, 3)) (hl : Cond.methodLink (zRn M.2.2.2.2.1) idx q.1 ∈ wsL_law) (hs : Cond.instanceMethod q.1 ∈ wsL_law) (hse : Cond.selects "java/lang/String" q.1 q.1 ∈ wsL_law) (hq : q.1.cls = "java/lang/String") (hc : zWd0 q ∈ wsL_law)
    (hdd : (parseMethodDescriptor q.1.desc).map (fun d => d.parameters.length) = some n) (hm : q.2.2.1 ≤ 41) (h0 : zwm q = 0) (h1 : zws q = 0) (hn : As.length = n) (hj : j < 12) (hrest : (rest.map fun v => v.category).sum ≤ 8)
    (g : MOk d q (.ref (zS + j) :: As) w (fun r w' => Go M (d + 1) w0n (pc + 3) lv (r.toList ++ rest) w' rc rs Q)) : Go M (d + 1) w0n pc lv (As.reverse ++ .ref (zS + j) :: rest) w rc rs Q := by
  intro p l e s m args below meth c dC dI dA loc0 w0 H locs cells slots loc ls hA hH
  have hz : w.1 + zwm q ≤ zB := by
    have := hA.2.2.2.2.2.2.2.2.2.2.2.1
    have := hH.2.2.2.2.2.2.2.2.2
    omega
  have hMet := g hz l dC dI dA loc H.size
  have hloc := Go.zlocS (j := j) hA hH
  have hrecv := vk_recv (Go.zenv hA).2.2.1.1 hj hH.2.2.2.1
  have hrecv : ∃ cell : Cell, H[loc (zS + j)]? = some cell ∧ cell.vm.isStatics = false ∧ s.vm.findClass "java/lang/String" = some cell.cls := by rw [hloc]; exact hrecv
  have hst : (As.reverse ++ .ref (zS + j) :: rest).map (zv loc) = (As.map (zv loc)).reverse ++ .ref (loc (zS + j)) :: rest.map (zv loc) := by
    rw [List.map_append, List.map_reverse]
    rfl
  rw [hst]
  refine Go.cont (q := q) (Qk := _) (rest := rest) (lv := lv) (rc := rc) (rs := rs) hA hH (by omega) (by omega) (Or.inl h0) (Or.inl h0) (va_runV (As := As.map (zv loc)) (C := "java/lang/String") ⟨hA.1, hA.2.1, hA.2.2.2.1, Go.zown hA, hA.2.2.2.2.2.1⟩ hMet (cwV (ws' := wsL_law) (bytes := q.2.1) (maxL := q.2.2.1) (ret := q.2.2.2.1) n hA.2.2.2.2.2.1 (zgoodIn ?_) rfl rfl rfl ⟨hq, by rw [hq]; decide, by rw [hq]; decide, hdd⟩ (zroom hm)) ⟨zPre_blind, hrecv, fun U hU hW => ⟨rfl, hH.pre hA U hU hW⟩⟩ rfl (by rw [List.length_map]; exact hn) (hH.2.2.2.2.1.1.trans hH.2.2.2.2.2.1) rfl (lv_room (by rw [zcats]; exact hrest)) hd ⟨?_, ?_⟩) (fun r w' h => by rw [h0, h1]; exact h)
  · intro x hx
    rcases List.mem_append.mp hx with hx | hx
    · simp only [List.mem_cons, List.not_mem_nil, or_false] at hx
      rcases hx with rfl | rfl | rfl | rfl
      · exact hl
      · exact hs
      · exact hse
      · exact zr_41 _ (List.mem_of_getElem? (i := 7) rfl)
    · rcases List.mem_cons.mp hx with rfl | hx
      · exact hc
      · exact hx
  · have := hH.2.2.2.2.2.2.1
    show cells + zwm q ≤ zwm M
    omega
  · have := hH.2.2.2.2.2.2.2.1
    show slots + zws q ≤ zws M
    omega
end ZST
def mJ_coder : zMth := (yJ0_coder_7d493, cJ0_coder_7d493, 1, some .byte, 11, 0, 0)
theorem mJ_coder_c : zWd0 mJ_coder ∈ wsL_law := zr_41 _ (List.mem_of_getElem? (i := 13) rfl)
def mJ_isL : zMth := (yJ0_isLatin1_aae02, cJ0_isLatin1_aae02, 1, some .boolean, 11, 0, 0)
theorem mJ_isL_c : zWd0 mJ_isL ∈ wsL_law := zr_41 _ (List.mem_of_getElem? (i := 23) rfl)
def mJ_len : zMth := (yJ0_length_8abf5, cJ0_length_8abf5, 1, some .int, 11, 0, 0)
theorem mJ_len_c : zWd0 mJ_len ∈ wsL_law := zr_41 _ (List.mem_of_getElem? (i := 8) rfl)
def mJ_pchk : zMth := (yJ3_checkIndex_8e157, cJ3_checkIndex_8e157, 3, some .int, 13, 0, 0)
theorem mJ_pchk_c : zWd0 mJ_pchk ∈ wsL_law := zr_42 _ (List.mem_of_getElem? (i := 11) rfl)
def mJ_chk : zMth := (yJ0_checkIndex_df160, cJ0_checkIndex_df160, 2, none, 11, 0, 0)
theorem mJ_chk_c : zWd0 mJ_chk ∈ wsL_law := zr_42 _ (List.mem_of_getElem? (i := 6) rfl)
def mJ_lchr : zMth := (yJ1_charAt_3b067, cJ1_charAt_3b067, 2, some .char, 12, 0, 0)
theorem mJ_lchr_c : zWd0 mJ_lchr ∈ wsL_law := zr_42 _ (List.mem_of_getElem? (i := 3) rfl)
def mJ_chr : zMth := (yJ0_charAt_5068e, cJ0_charAt_5068e, 2, some .char, 11, 0, 0)
theorem mJ_chr_c : zWd0 mJ_chr ∈ wsL_law := zr_41 _ (List.mem_of_getElem? (i := 19) rfl)
theorem plJ0 : plainName RJ0 = true := by decide +kernel
theorem plJ1 : plainName RJ1 = true := by decide +kernel
theorem plJ3 : plainName RJ3 = true := by decide +kernel
theorem zstLen_ok : ∀ j, j < 12 → (zstLen j < 8 ∧ Int32.ofNat (zstLen j) >>> ((0 : Int32) &&& 31) = Int32.ofInt (zstLen j : Int)) := by decide +kernel
theorem zstCh_ok : ∀ j, j < 12 → ∀ k, k < 8 → k < zstLen j → ((((zByt.getD j []).getD k 0) &&& (Int16.ofInt 255).toInt32).toUInt32 % 65536).toInt32 = Int32.ofInt (zstCh j k) ∧ narrow .char (.int (Int32.ofInt (zstCh j k))) = .int (Int32.ofInt (zstCh j k)) ∧ 32 ≤ zstCh j k ∧ zstCh j k < 127 := by decide +kernel
section ZSU
variable {d : Nat} {w : zWd} {K : Option Value → zWd → Prop}
theorem c_jcoder {j : Nat} (hj : j < 12) (h : K (some (.int 0)) w) : MOk d mJ_coder [.ref (zS + j)] w K := by
  refine MOk.body plJ0 rfl (by simp [Value.category]) (Nat.le_of_ble_eq_true rfl) ?_
  refine Go.sCS dJ0_coder_7d493_0 (zr_41 _ (List.mem_of_getElem? (i := 14) rfl)) ?_
  refine Go.if_eq (t := 13) dJ0_coder_7d493_3 (by decide) ?_
  rw [if_neg (by decide)]
  refine Go.aload_n dJ0_coder_7d493_6 rfl ?_
  refine Go.sgetC dJ0_coder_7d493_7 (zr_41 _ (List.mem_of_getElem? (i := 15) rfl)) hj ?_
  refine Go.goto (t := 14) dJ0_coder_7d493_10 (by decide) ?_
  exact Go.iret dJ0_coder_7d493_14 rfl (by decide) h ⟨rfl, rfl⟩
theorem c_jisL {j : Nat} (hj : j < 12) (h : K (some (.int 1)) w) : MOk d mJ_isL [.ref (zS + j)] w K := by
  refine MOk.body plJ0 rfl (by simp [Value.category]) (Nat.le_of_ble_eq_true rfl) ?_
  refine Go.sCS dJ0_isLatin1_aae02_0 (zr_41 _ (List.mem_of_getElem? (i := 14) rfl)) ?_
  refine Go.if_eq (t := 17) dJ0_isLatin1_aae02_3 (by decide) ?_
  rw [if_neg (by decide)]
  refine Go.aload_n dJ0_isLatin1_aae02_6 rfl ?_
  refine Go.sgetC dJ0_isLatin1_aae02_7 (zr_41 _ (List.mem_of_getElem? (i := 15) rfl)) hj ?_
  refine Go.if_ne (t := 17) dJ0_isLatin1_aae02_10 (by decide) ?_
  rw [if_neg (by decide)]
  refine Go.iconst dJ0_isLatin1_aae02_13 ?_
  refine Go.goto (t := 18) dJ0_isLatin1_aae02_14 (by decide) ?_
  exact Go.iret dJ0_isLatin1_aae02_18 rfl (by decide) h ⟨rfl, rfl⟩
theorem c_jlen {j : Nat} (hj : j < 12) (h : K (some (.int (Int32.ofInt (zstLen j : Int)))) w) : MOk (d + 1) mJ_len [.ref (zS + j)] w K := by
  refine MOk.body plJ0 rfl (by simp [Value.category]) (Nat.le_of_ble_eq_true rfl) ?_
  refine Go.aload_n dJ0_length_8abf5_0 rfl ?_
  refine Go.sgetV dJ0_length_8abf5_1 (zr_41 _ (List.mem_of_getElem? (i := 9) rfl)) hj ?_
  refine Go.vlen dJ0_length_8abf5_4 hj ?_
  refine Go.aload_n dJ0_length_8abf5_5 rfl ?_
  refine Go.callSV (n := 0) (q := mJ_coder) (As := []) (rest := [.int (Int32.ofNat (zstLen j))]) dJ0_length_8abf5_6 (zr_41 _ (List.mem_of_getElem? (i := 10) rfl)) (zr_41 _ (List.mem_of_getElem? (i := 11) rfl)) (zr_41 _ (List.mem_of_getElem? (i := 12) rfl)) rfl mJ_coder_c (by decide +kernel) (Nat.le_of_ble_eq_true rfl) rfl rfl rfl hj (by simp [Value.category]) ?_
  refine c_jcoder hj ?_
  refine Go.ishr dJ0_length_8abf5_9 ?_
  rw [(zstLen_ok j hj).2]
  exact Go.iret dJ0_length_8abf5_10 rfl rfl h ⟨rfl, rfl⟩
theorem c_jpchk {i n : Int} {v : Value} (hv : v.category = 1) (h0 : 0 ≤ i ∧ i < n) (hn : n < 1000) (h : K (some (.int (Int32.ofInt i))) w) : MOk d mJ_pchk [.int (Int32.ofInt i), .int (Int32.ofInt n), v] w K := by
  refine MOk.body plJ3 rfl (List.forall_mem_cons.mpr ⟨rfl, List.forall_mem_cons.mpr ⟨rfl, List.forall_mem_cons.mpr ⟨hv, fun _ h => absurd h List.not_mem_nil⟩⟩⟩) (Nat.le_of_ble_eq_true rfl) ?_
  refine Go.iload_n dJ3_checkIndex_8e157_0 rfl ?_
  refine Go.if_lt (t := 9) dJ3_checkIndex_8e157_1 (by decide) ?_
  rw [if_neg (by rw [Int32.lt_iff_toInt_lt, Int32.toInt_ofInt]; simp only [Int.bmod, Int32.size]; show ¬ _ < (0 : Int); omega)]
  refine Go.iload_n dJ3_checkIndex_8e157_4 rfl ?_
  refine Go.iload_n dJ3_checkIndex_8e157_5 rfl ?_
  refine Go.icmp_lt (t := 16) dJ3_checkIndex_8e157_6 (by decide) ?_
  rw [if_pos (by rw [Int32.lt_iff_toInt_lt, Int32.toInt_ofInt, Int32.toInt_ofInt]; simp only [Int.bmod, Int32.size]; omega)]
  refine Go.iload_n dJ3_checkIndex_8e157_16 rfl ?_
  exact Go.iret dJ3_checkIndex_8e157_17 rfl rfl h ⟨rfl, rfl⟩
theorem c_jchk {i n : Int} (h0 : 0 ≤ i ∧ i < n) (hn : n < 1000) (h : K none w) : MOk (d + 1) mJ_chk [.int (Int32.ofInt i), .int (Int32.ofInt n)] w K := by
  refine MOk.body plJ0 rfl (by simp [Value.category]) (Nat.le_of_ble_eq_true rfl) ?_
  refine Go.iload_n dJ0_checkIndex_df160_0 rfl ?_
  refine Go.iload_n dJ0_checkIndex_df160_1 rfl ?_
  have T : ∀ v : Value, v.category = 1 → Go mJ_chk (d + 1) w.1 5 [some (.int (Int32.ofInt i)), some (.int (Int32.ofInt n))] [v, .int (Int32.ofInt n), .int (Int32.ofInt i)] w (zwm mJ_chk) (zws mJ_chk) K := by
    intro v hv
    refine Go.callST (n := 3) (q := mJ_pchk) (As := [.int (Int32.ofInt i), .int (Int32.ofInt n), v]) (rest := []) dJ0_checkIndex_df160_5 (zr_42 _ (List.mem_of_getElem? (i := 8) rfl)) (zr_42 _ (List.mem_of_getElem? (i := 9) rfl)) (zr_42 _ (List.mem_of_getElem? (i := 10) rfl)) mJ_pchk_c ⟨by decide +kernel, by decide +kernel, by decide +kernel⟩ (Nat.le_of_ble_eq_true rfl) rfl rfl rfl (by decide) ?_
    refine c_jpchk hv h0 hn ?_
    refine Go.pop dJ0_checkIndex_df160_8 rfl ?_
    exact Go.vret dJ0_checkIndex_df160_9 rfl h ⟨rfl, rfl⟩
  exact Go.sFM dJ0_checkIndex_df160_2 (zr_42 _ (List.mem_of_getElem? (i := 7) rfl)) (T _ rfl) (T _ rfl)
theorem c_jlchr {j k : Nat} (hj : j < 12) (hk : k < zstLen j) (h : K (some (.int (Int32.ofInt (zstCh j k)))) w) : MOk (d + 2) mJ_lchr [.ref (zV + j), .int (Int32.ofInt (k : Int))] w K := by
  have hl := (zstLen_ok j hj).1
  obtain ⟨e1, e2, -⟩ := zstCh_ok j hj k (by omega) hk
  have en : Int32.ofNat (zstLen j) = Int32.ofInt (zstLen j : Int) := rfl
  refine MOk.body plJ1 rfl (by simp [Value.category]) (Nat.le_of_ble_eq_true rfl) ?_
  refine Go.iload_n dJ1_charAt_3b067_0 rfl ?_
  refine Go.aload_n dJ1_charAt_3b067_1 rfl ?_
  refine Go.vlen dJ1_charAt_3b067_2 hj ?_
  rw [en]
  refine Go.callST (n := 2) (q := mJ_chk) (As := [.int (Int32.ofInt (k : Int)), .int (Int32.ofInt (zstLen j : Int))]) (rest := []) dJ1_charAt_3b067_3 (zr_42 _ (List.mem_of_getElem? (i := 4) rfl)) (zr_42 _ (List.mem_of_getElem? (i := 5) rfl)) (zr_41 _ (List.mem_of_getElem? (i := 7) rfl)) mJ_chk_c ⟨by decide +kernel, by decide +kernel, by decide +kernel⟩ (Nat.le_of_ble_eq_true rfl) rfl rfl rfl (by decide) ?_
  refine c_jchk (by omega) (by omega) ?_
  refine Go.aload_n dJ1_charAt_3b067_6 rfl ?_
  refine Go.iload_n dJ1_charAt_3b067_7 rfl ?_
  refine Go.vald dJ1_charAt_3b067_8 hj ?_ ?_
  · rw [vp_in_iff, Int32.toInt_ofInt]
    simp only [Int.bmod, Int32.size]
    omega
  refine Go.sipush dJ1_charAt_3b067_9 ?_
  refine Go.iand dJ1_charAt_3b067_12 ?_
  refine Go.i2c dJ1_charAt_3b067_13 ?_
  have ek : (Int32.ofInt (k : Int)).toNatClampNeg = k := by
    rw [← Int32.toNat_toInt, Int32.toInt_ofInt]
    simp only [Int.bmod, Int32.size]
    omega
  rw [ek, e1]
  exact Go.iret dJ1_charAt_3b067_14 rfl e2 h ⟨rfl, rfl⟩
theorem c_jchr {j k : Nat} (hj : j < 12) (hk : k < zstLen j) (h : K (some (.int (Int32.ofInt (zstCh j k)))) w) : MOk (d + 3) mJ_chr [.ref (zS + j), .int (Int32.ofInt (k : Int))] w K := by
  have hl := (zstLen_ok j hj).1
  obtain ⟨-, e2, -⟩ := zstCh_ok j hj k (by omega) hk
  refine MOk.body plJ0 rfl (by simp [Value.category]) (Nat.le_of_ble_eq_true rfl) ?_
  refine Go.aload_n dJ0_charAt_5068e_0 rfl ?_
  refine Go.callSV (n := 0) (q := mJ_isL) (As := []) (rest := []) dJ0_charAt_5068e_1 (zr_41 _ (List.mem_of_getElem? (i := 20) rfl)) (zr_41 _ (List.mem_of_getElem? (i := 21) rfl)) (zr_41 _ (List.mem_of_getElem? (i := 22) rfl)) rfl mJ_isL_c (by decide +kernel) (Nat.le_of_ble_eq_true rfl) rfl rfl rfl hj (by decide) ?_
  refine c_jisL hj ?_
  refine Go.if_eq (t := 16) dJ0_charAt_5068e_4 (by decide) ?_
  rw [if_neg (by decide)]
  refine Go.aload_n dJ0_charAt_5068e_7 rfl ?_
  refine Go.sgetV dJ0_charAt_5068e_8 (zr_41 _ (List.mem_of_getElem? (i := 9) rfl)) hj ?_
  refine Go.iload_n dJ0_charAt_5068e_11 rfl ?_
  refine Go.callST (n := 2) (q := mJ_lchr) (As := [.ref (zV + j), .int (Int32.ofInt (k : Int))]) (rest := []) dJ0_charAt_5068e_12 (zr_42 _ (List.mem_of_getElem? (i := 0) rfl)) (zr_42 _ (List.mem_of_getElem? (i := 1) rfl)) (zr_42 _ (List.mem_of_getElem? (i := 2) rfl)) mJ_lchr_c ⟨by decide +kernel, by decide +kernel, by decide +kernel⟩ (Nat.le_of_ble_eq_true rfl) rfl rfl rfl (by decide) ?_
  refine c_jlchr hj hk ?_
  exact Go.iret dJ0_charAt_5068e_15 rfl e2 h ⟨rfl, rfl⟩
end ZSU
section ZSW
variable {M : zMth} {d w0n pc : Nat} {lv : List (Option Value)} {st : List Value} {w : zWd} {rc rs : Nat} {Q : Option Value → zWd → Prop}
def zLk (o idx : Nat) : Prop := (o = 9 ∧ idx = 278) ∨ (o = 0 ∧ idx = 50) ∨ (o = 5 ∧ idx = 65)
def zCk (o idx : Nat) : Prop := (o = 9 ∧ idx = 283) ∨ (o = 0 ∧ idx = 55) ∨ (o = 5 ∧ idx = 70)
theorem zLk_ok {o idx : Nat} (h : zLk o idx) : Cond.methodLink (zRn o) idx yJ0_length_8abf5 ∈ wsL_law := by
  rcases h with ⟨rfl, rfl⟩ | ⟨rfl, rfl⟩ | ⟨rfl, rfl⟩
  · exact zr_44 _ (List.mem_of_getElem? (i := 2) rfl)
  · exact zr_45 _ (List.mem_of_getElem? (i := 14) rfl)
  · exact zr_41 _ (List.mem_of_getElem? (i := 4) rfl)
theorem zCk_ok {o idx : Nat} (h : zCk o idx) : Cond.methodLink (zRn o) idx yJ0_charAt_5068e ∈ wsL_law := by
  rcases h with ⟨rfl, rfl⟩ | ⟨rfl, rfl⟩ | ⟨rfl, rfl⟩
  · exact zr_44 _ (List.mem_of_getElem? (i := 3) rfl)
  · exact zr_45 _ (List.mem_of_getElem? (i := 15) rfl)
  · exact zr_41 _ (List.mem_of_getElem? (i := 16) rfl)
theorem Go.slen {idx j : Nat} (hd : decode M.2.1 pc = .ok (.invokevirtual idx, 3)) (hl : zLk M.2.2.2.2.1 idx) (hj : j < 12) (hst : (st.map fun v => v.category).sum ≤ 8) (g : Go M (d + 2) w0n (pc + 3) lv (.int (Int32.ofInt (zstLen j : Int)) :: st) w rc rs Q) : Go M (d + 2) w0n pc lv (.ref (zS + j) :: st) w rc rs Q :=
  Go.callSV (n := 0) (q := mJ_len) (As := []) (rest := st) hd (zLk_ok hl) (zr_41 _ (List.mem_of_getElem? (i := 5) rfl)) (zr_41 _ (List.mem_of_getElem? (i := 6) rfl)) rfl mJ_len_c (by decide +kernel) (Nat.le_of_ble_eq_true rfl) rfl rfl rfl hj hst (c_jlen hj g)
theorem Go.schr {idx j k : Nat} (hd : decode M.2.1 pc = .ok (.invokevirtual idx, 3)) (hl : zCk M.2.2.2.2.1 idx) (hj : j < 12) (hk : k < zstLen j) (hst : (st.map fun v => v.category).sum ≤ 8) (g : Go M (d + 4) w0n (pc + 3) lv (.int (Int32.ofInt (zstCh j k)) :: st) w rc rs Q) : Go M (d + 4) w0n pc lv (.int (Int32.ofInt (k : Int)) :: .ref (zS + j) :: st) w rc rs Q :=
  Go.callSV (n := 1) (q := mJ_chr) (As := [.int (Int32.ofInt (k : Int))]) (rest := st) hd (zCk_ok hl) (zr_41 _ (List.mem_of_getElem? (i := 17) rfl)) (zr_41 _ (List.mem_of_getElem? (i := 18) rfl)) rfl mJ_chr_c (by decide +kernel) (Nat.le_of_ble_eq_true rfl) rfl rfl rfl hj hst (c_jchr hj hk g)
end ZSW
