/-! calls, and a method out of its body -/
theorem zgood : ∀ w ∈ wsL_law, ((w.onTables && w.keeps) = true ∨ ∃ ty, w = .arrayClass ty) := fun w h => good_of_word (List.all_eq_true.mp (by decide +kernel : wsL_law.all goodWord = true) w h)
theorem zgoodIn {x : Cond} {ws : List Cond} (h : ∀ w ∈ ws, w ∈ wsL_law) : GoodIn (x :: wsL_law) ws := fun w hw => ⟨List.mem_cons_of_mem _ (h w hw), zgood w (h w hw)⟩
section ZC
variable {M : zMth} {d w0n pc : Nat} {lv : List (Option Value)} {st : List Value} {w : zWd} {rc rs : Nat} {Q : Option Value → zWd → Prop}
variable {p : Program} {l : Launch} {e : Env} {s : State} {m : MethodId} {args : Array Value} {below : List Frame} {meth : Method} {c : Code} {dC : Nat → ClassId} {dI : Nat → Nat → Nat} {dA : Nat → ClassId} {loc0 : Nat → Nat} {w0 : zWd} {H : Heap} {locs : List Loc} {cells slots : Nat} {loc : Nat → Nat} {ls : Array Slot}
theorem zHere.in (hA : zAct M w0n p s m args meth c dC dI dA loc0 w0) (hH : zHere M w0n s dC dI dA loc0 w0 H locs cells slots loc ls lv w rc rs) : ∀ q, zA dA loc w H.size q → zA dA loc0 w0 s.heap.size q := by
  intro q h
  rcases h with ⟨k, e, h⟩ | h
  · exact hH.2.2.1.2 k (q, e) h
  · exact Or.inr (Nat.le_trans hH.2.2.2.1.1 h)
theorem zHere.env (hA : zAct M w0n p s m args meth c dC dI dA loc0 w0) (hH : zHere M w0n s dC dI dA loc0 w0 H locs cells slots loc ls lv w rc rs) : zEnv loc (zA dA loc w H.size) s H := by
  obtain ⟨h1, h2, h3, h4, h5, h6, h7, h8, h9, h10⟩ := id hH
  have hE := hA.2.2.2.2.2.2.2.2.1
  have hz := hA.2.2.2.2.2.2.2.2.2.2.2.1
  exact ((hE.kept (fun a ha hn => h4.2.1 a ha hn)).narrow (hH.in hA)).loc (fun i hi => h1 i (Or.inr (Nat.le_trans hz hi)))
theorem zHere.pre (hA : zAct M w0n p s m args meth c dC dI dA loc0 w0) (hH : zHere M w0n s dC dI dA loc0 w0 H locs cells slots loc ls lv w rc rs) (U : State) (hU : U.heap = H) (hW : s.WarmedH U.vm) : zPre dC dI dA loc w H.size U := by
  have hE := (hH.env hA).warm hW
  obtain ⟨h1, h2, h3, h4, h5, h6, h7, h8, h9, h10⟩ := hH
  refine ⟨by rw [hU], by rw [hU]; exact h2, va_K.moved hW.alike hA.2.2.2.2.2.2.2.1, h3.weaken (fun _ _ _ _ => trivial), ?_⟩
  rw [hU]
  exact hE
/-- places that a callee may fill aren't named by the caller -/
def zfrL (n k : Nat) (vs : List Value) : Prop := k = 0 ∨ ∀ v ∈ vs, ∀ i, v = .ref i → i < n ∨ n + k ≤ i
def zlvs (lv : List (Option Value)) : List Value := lv.filterMap id
theorem zfrL.eq {n k : Nat} {vs : List Value} {loc loc' : Nat → Nat} (h : zfrL n k vs) (hl : ∀ i, (i < n ∨ n + k ≤ i) → loc' i = loc i) : ∀ v ∈ vs, zv loc' v = zv loc v := by
  intro v hv
  cases v <;> try rfl
  rename_i i
  have : loc' i = loc i := by
    rcases h with rfl | h
    · exact hl i (by omega)
    · exact hl i (h _ hv i rfl)
  simp [zv, this]
theorem Go.cont {q : zMth} {rest : List Value} {st0 : List Value} {Qk : Option Value → zWd → Prop} {a : Array Value} (hA : zAct M w0n p s m args meth c dC dI dA loc0 w0) (hH : zHere M w0n s dC dI dA loc0 w0 H locs cells slots loc ls lv w rc rs)
    (hrc : zwm q ≤ rc) (hrs : zws q ≤ rs) (hf1 : zfrL w.1 (zwm q) (zlvs lv)) (hf2 : zfrL w.1 (zwm q) rest)
    (run : va_Run p l e (zRm d (zwm M) (zws M)) s m args below meth c H locs cells slots (zwm q) (zws q) (F0 m pc ls st0) (rest.map (zv loc)) (zQ dC dI dA loc w (zwm q) H.size Qk a) (zA dA loc w H.size))
    (g : ∀ r w', Qk r w' → Go M d w0n (pc + 3) lv (r.toList ++ rest) w' (rc - zwm q) (rs - zws q) Q) :
    W p l e (zRm d (zwm M) (zws M)) s m args below meth c H locs cells slots (MQ below (zQ dC dI dA loc0 w0 (zwm M) s.heap.size Q) args s (zwm M) (zws M) (zA dA loc0 w0 s.heap.size)) (F0 m pc ls st0) := by
  intro T hT X
  have hin := hH.in hA
  obtain ⟨v, st₀, t, T', L, h0, X', hL, e1, e2, ⟨⟨r, w', loc', hv, hq, hle, hle2, hloc, hP', hD'⟩, hz, hk⟩, stp⟩ := run T hT X
  obtain ⟨h1, h2, h3, h4, h5, h6, h7, h8, h9, h10⟩ := id hH
  have hv' : v = r.map (zv loc') := by injection hv
  subst hv'
  have hw0 : w0n + zwm M ≤ zB := hA.2.2.2.2.2.2.2.2.2.2.2.1
  rw [h0] at hz hk
  have hloc' : ∀ i, (i < w0n ∨ w0n + zwm M ≤ i) → loc' i = loc0 i := fun i hi => by
    rw [hloc i (by omega)]
    exact h1 i hi
  have hlv : zlv loc' ls lv := h5.ext (fun v hv => hf1.eq hloc v (by
    unfold zlvs
    exact List.mem_filterMap.mpr ⟨some v, hv, rfl⟩))
  have hst : (r.toList ++ rest).map (zv loc') = (r.map (zv loc')).toList ++ rest.map (zv loc) := by
    rw [List.map_append, List.map_congr_left (hf2.eq hloc)]
    cases r <;> rfl
  have hS' : va_S (zA dA loc0 w0 s.heap.size) s.heap T'.heap (locs ++ L) := by
    refine ⟨Nat.le_trans h4.1 (by rw [e1]; exact hz), fun q h1 h2 => ?_, fun q hq => ?_⟩
    · rw [e1, hk q (Nat.lt_of_lt_of_le h1 h4.1) (fun z => h2 (hin q z))]
      exact h4.2.1 q h1 h2
    · rcases List.mem_append.mp hq with h | h
      · exact h4.2.2 q h
      · exact hin _ (hL q h)
  have hH' : zHere M w0n s dC dI dA loc0 w0 T'.heap (locs ++ L) (cells + zwm q) (slots + zws q) loc' ls lv w' (rc - zwm q) (rs - zws q) :=
    ⟨hloc', by rw [e1]; exact hP', hD'.weaken (fun k q _ h => hin q.1 h), hS', hlv, h6, by omega, by omega, by omega, by omega⟩
  have G := g r w' hq p l e s m args below meth c dC dI dA loc0 w0 T'.heap (locs ++ L) (cells + zwm q) (slots + zws q) loc' ls hA hH'
  rw [hst] at G
  obtain ⟨t2, a1, b1⟩ := G T' rfl X'
  exact ⟨t2, stp t2 a1, b1⟩
end ZC
section ZD
variable {M : zMth} {d w0n pc : Nat} {lv : List (Option Value)} {st : List Value} {w : zWd} {rc rs : Nat} {Q : Option Value → zWd → Prop}
theorem zroom {q : zMth} {d : Nat} (hm : q.2.2.1 ≤ 41) : (zRm d (zwm q) (zws q)).frames + 1 ≤ (zRm (d + 1) (zwm M) (zws M)).frames ∧ 8 + (q.2.2.1 + 11) + (zRm d (zwm q) (zws q)).locals ≤ (zRm (d + 1) (zwm M) (zws M)).locals := by
  refine ⟨Nat.le_refl _, ?_⟩
  show 8 + (q.2.2.1 + 11) + 60 * d ≤ 60 * (d + 1)
  omega
theorem zcats {loc : Nat → Nat} {rest : List Value} : ((rest.map (zv loc)).map fun v => v.category).sum = (rest.map fun v => v.category).sum := by
  rw [List.map_map]
  congr 1
  apply List.map_congr_left
  intro v _
  exact zv_cat
theorem Go.callV {idx b ci : Nat} {q : zCl} {As rest fs : List Value} (hd : decode M.2.1 pc = .ok (.invokevirtual idx, 3)) (hl : zML M.2.2.2.2.1 idx = some q) (hk : q.2.2.1 = 0 ∨ q.2.2.1 = 3) (hn : As.length = q.2.1) (hb : b < w.1) (hw : w.2 b = .inr (ci, fs)) (hci : ci = q.2.2.2)
    (hrest : (rest.map fun v => v.category).sum ≤ 8) (hrc : zwm q.1 ≤ rc) (hrs : zws q.1 ≤ rs) (hf1 : zfrL w.1 (zwm q.1) (zlvs lv)) (hf2 : zfrL w.1 (zwm q.1) rest)
    (g : MOk d q.1 (.ref b :: As) w (fun r w' => Go M (d + 1) w0n (pc + 3) lv (r.toList ++ rest) w' (rc - zwm q.1) (rs - zws q.1) Q)) : Go M (d + 1) w0n pc lv (As.reverse ++ .ref b :: rest) w rc rs Q := by
  intro p l e s m args below meth c dC dI dA loc0 w0 H locs cells slots loc ls hA hH
  obtain ⟨⟨c1, c2, c3, c4, c5⟩, c6, -, -, c9, hm, -⟩ := zML_ok hl
  have hci : ci = q.2.2.2 ∧ ci < 10 := ⟨hci, by rw [hci]; exact c9⟩
  have hown := hA.2.2.2.2.1
  rw [hA.2.2.2.2.2.2.2.2.2.2.2.2] at hown
  have hz : w.1 + zwm q.1 ≤ zB := by
    have := hA.2.2.2.2.2.2.2.2.2.2.2.1
    have := hH.2.2.2.2.2.2.2.2.2
    omega
  have hMet := g hz l dC dI dA loc H.size
  have hrecv := va_recv hA.2.2.2.2.2.2.2.1 hH.2.1 (zcl ci hci.2) (zw_obj (dA := dA) (loc := loc) hb hw)
  have hce : q.1.1.cls = zRn ci := by rw [c3, hci.1]
  have hcc : (zWd0 M :: wsL_law).length = (zWd0 M :: wsL_law).length := rfl
  have hst : (As.reverse ++ .ref b :: rest).map (zv loc) = (As.map (zv loc)).reverse ++ .ref (loc b) :: rest.map (zv loc) := by
    rw [List.map_append, List.map_reverse]
    rfl
  rw [hst]
  refine Go.cont (q := q.1) (Qk := _) (rest := rest) (lv := lv) (rc := rc) (rs := rs) hA hH hrc hrs hf1 hf2 (va_runV (As := As.map (zv loc)) (C := zRn ci) ⟨hA.1, hA.2.1, hA.2.2.2.1, hown, hA.2.2.2.2.2.1⟩ hMet (cwV (ws' := wsL_law) (bytes := q.1.2.1) (maxL := q.1.2.2.1) (ret := q.1.2.2.2.1) q.2.1 hA.2.2.2.2.2.1 (zgoodIn ?_) rfl rfl rfl ⟨hce, c5.1, c5.2.1, c5.2.2⟩ (zroom hm)) ⟨zPre_blind, hrecv, fun U hU hW => ⟨rfl, hH.pre hA U hU hW⟩⟩ rfl (by rw [List.length_map]; exact hn) (hH.2.2.2.2.1.1.trans hH.2.2.2.2.2.1) rfl (lv_room (by rw [zcats]; exact hrest)) hd ⟨?_, ?_⟩) (fun r w' h => h)
  · intro x hx
    rcases List.mem_append.mp hx with hx | hx
    · simp only [List.mem_cons, List.not_mem_nil, or_false] at hx
      rcases hx with rfl | rfl | rfl | rfl
      · exact c2
      · exact (c6 hk).1
      · rw [← hce]; exact (c6 hk).2
      · rw [← hce]; exact c4
    · rcases List.mem_cons.mp hx with rfl | hx
      · exact c1
      · exact hx
  · have := hH.2.2.2.2.2.2.1
    show cells + zwm q.1 ≤ zwm M
    omega
  · have := hH.2.2.2.2.2.2.2.1
    show slots + zws q.1 ≤ zws M
    omega
theorem Go.callS {idx : Nat} {q : zCl} {As rest : List Value} (hd : decode M.2.1 pc = .ok (.invokestatic idx, 3)) (hl : zML M.2.2.2.2.1 idx = some q) (hk : q.2.2.1 = 1) (hn : As.length = q.2.1)
    (hrest : (rest.map fun v => v.category).sum ≤ 8) (hrc : zwm q.1 ≤ rc) (hrs : zws q.1 ≤ rs) (hf1 : zfrL w.1 (zwm q.1) (zlvs lv)) (hf2 : zfrL w.1 (zwm q.1) rest)
    (g : MOk d q.1 As w (fun r w' => Go M (d + 1) w0n (pc + 3) lv (r.toList ++ rest) w' (rc - zwm q.1) (rs - zws q.1) Q)) : Go M (d + 1) w0n pc lv (As.reverse ++ rest) w rc rs Q := by
  intro p l e s m args below meth c dC dI dA loc0 w0 H locs cells slots loc ls hA hH
  obtain ⟨⟨c1, c2, c3, c4, c5⟩, -, c7, -, c9, hm, -⟩ := zML_ok hl
  have hown := hA.2.2.2.2.1
  rw [hA.2.2.2.2.2.2.2.2.2.2.2.2] at hown
  have hz : w.1 + zwm q.1 ≤ zB := by
    have := hA.2.2.2.2.2.2.2.2.2.2.2.1
    have := hH.2.2.2.2.2.2.2.2.2
    omega
  have hMet := g hz l dC dI dA loc H.size
  have hst : (As.reverse ++ rest).map (zv loc) = (As.map (zv loc)).reverse ++ rest.map (zv loc) := by
    rw [List.map_append, List.map_reverse]
  rw [hst]
  refine Go.cont (q := q.1) (Qk := _) (rest := rest) (lv := lv) (rc := rc) (rs := rs) hA hH hrc hrs hf1 hf2 (va_runS (As := As.map (zv loc)) ⟨hA.1, hA.2.1, hA.2.2.2.1, hown, hA.2.2.2.2.2.1⟩ hMet (cwS (ws' := wsL_law) (bytes := q.1.2.1) (maxL := q.1.2.2.1) (ret := q.1.2.2.2.1) q.2.1 hA.2.2.2.2.2.1 (zgoodIn ?_) rfl rfl rfl ⟨(c7 hk).2, c5.1, c5.2.1, c5.2.2⟩ (zroom hm)) ⟨zPre_blind, fun U hU hW => ⟨rfl, hH.pre hA U hU hW⟩⟩ rfl (by rw [List.length_map]; exact hn) (hH.2.2.2.2.1.1.trans hH.2.2.2.2.2.1) rfl (lv_room (by rw [zcats]; exact hrest)) hd ⟨?_, ?_⟩) (fun r w' h => h)
  · intro x hx
    rcases List.mem_append.mp hx with hx | hx
    · simp only [List.mem_cons, List.not_mem_nil, or_false] at hx
      rcases hx with rfl | rfl | rfl
      · exact c2
      · exact (c7 hk).1
      · rw [← (c7 hk).2]; exact c4
    · rcases List.mem_cons.mp hx with rfl | hx
      · exact c1
      · exact hx
  · have := hH.2.2.2.2.2.2.1
    show cells + zwm q.1 ≤ zwm M
    omega
  · have := hH.2.2.2.2.2.2.2.1
    show slots + zws q.1 ≤ zws M
    omega
theorem Go.callI {idx b : Nat} {q : zCl} {As rest : List Value} (hd : decode M.2.1 pc = .ok (.invokespecial idx, 3)) (hl : zML M.2.2.2.2.1 idx = some q) (hk : q.2.2.1 = 2) (hn : As.length = q.2.1)
    (hrest : (rest.map fun v => v.category).sum ≤ 8) (hrc : zwm q.1 ≤ rc) (hrs : zws q.1 ≤ rs) (hf1 : zfrL w.1 (zwm q.1) (zlvs lv)) (hf2 : zfrL w.1 (zwm q.1) rest)
    (g : MOk d q.1 (.ref b :: As) w (fun r w' => Go M (d + 1) w0n (pc + 3) lv (r.toList ++ rest) w' (rc - zwm q.1) (rs - zws q.1) Q)) : Go M (d + 1) w0n pc lv (As.reverse ++ .ref b :: rest) w rc rs Q := by
  intro p l e s m args below meth c dC dI dA loc0 w0 H locs cells slots loc ls hA hH
  obtain ⟨⟨c1, c2, c3, c4, c5⟩, -, -, c8, c9, hm, -⟩ := zML_ok hl
  obtain ⟨c81, c82, c83⟩ := c8 hk
  have hown := hA.2.2.2.2.1
  rw [hA.2.2.2.2.2.2.2.2.2.2.2.2] at hown
  have hz : w.1 + zwm q.1 ≤ zB := by
    have := hA.2.2.2.2.2.2.2.2.2.2.2.1
    have := hH.2.2.2.2.2.2.2.2.2
    omega
  have hMet := g hz l dC dI dA loc H.size
  have hst : (As.reverse ++ .ref b :: rest).map (zv loc) = (As.map (zv loc)).reverse ++ .ref (loc b) :: rest.map (zv loc) := by
    rw [List.map_append, List.map_reverse]
    rfl
  have hts := hA.2.2.2.2.2.1
  rw [hst]
  refine Go.cont (q := q.1) (Qk := _) (rest := rest) (lv := lv) (rc := rc) (rs := rs) hA hH hrc hrs hf1 hf2 (va_runI (As := As.map (zv loc)) ⟨hA.1, hA.2.1, hA.2.2.2.1, hown, hts⟩ hMet (cwI (ws' := wsL_law) (bytes := q.1.2.1) (maxL := q.1.2.2.1) q.2.1 hts (zgoodIn ?_) (by show zWd0 q.1 :: wsL_law = _; rw [zWd0, c83]) rfl rfl (hts _ (List.mem_cons_of_mem _ c4)) (hts _ (List.mem_cons_of_mem _ c2)) (hts _ (List.mem_cons_of_mem _ c81)) c82 ⟨c5.1, c5.2.1, c5.2.2⟩ (zroom hm)) ⟨zPre_blind, fun U hU hW => ⟨rfl, hH.pre hA U hU hW⟩⟩ rfl (by rw [List.length_map]; exact hn) (hH.2.2.2.2.1.1.trans hH.2.2.2.2.2.1) rfl (lv_room (by rw [zcats]; exact hrest)) hd ⟨?_, ?_⟩) (fun r w' h => h)
  · intro x hx
    rcases List.mem_cons.mp hx with rfl | hx
    · exact c1
    · exact hx
  · have := hH.2.2.2.2.2.2.1
    show cells + zwm q.1 ≤ zwm M
    omega
  · have := hH.2.2.2.2.2.2.2.1
    show slots + zws q.1 ≤ zws M
    omega
theorem zargs_len {vs : List Value} (h : ∀ v ∈ vs, v.category = 1) : (lg_sl vs).length = vs.length := by
  induction vs with
  | nil => rfl
  | cons v vs ih =>
    have e : lg_sl (v :: vs) = (if v.category = 2 then [Slot.val v, .second] else [.val v]) ++ lg_sl vs := rfl
    rw [e, if_neg (by rw [h v List.mem_cons_self]; decide), List.length_append, ih (fun u hu => h u (List.mem_cons_of_mem _ hu)), List.length_cons]
    simp
    omega
theorem zargs_mem {vs : List Value} (h : ∀ v ∈ vs, v.category = 1) : ∀ (k i : Nat) (x : Value), vs[i]? = some x → (k + i, x) ∈ lv_args k vs := by
  induction vs with
  | nil => intro k i x hx; simp at hx
  | cons v vs ih =>
    intro k i x hx
    rw [lv_args, if_neg (by rw [h v List.mem_cons_self]; decide)]
    cases i with
    | zero =>
      simp only [List.getElem?_cons_zero, Option.some.injEq] at hx
      subst hx
      exact List.mem_cons_self
    | succ i =>
      rw [List.getElem?_cons_succ] at hx
      have := ih (fun u hu => h u (List.mem_cons_of_mem _ hu)) (k + 1) i x hx
      rw [show k + (i + 1) = k + 1 + i by omega]
      exact List.mem_cons_of_mem _ this
theorem MOk.body {avs : List Value} (hpl : plainName M.1.cls = true) (hself : M.1.cls = zRn M.2.2.2.2.1) (hav : ∀ v ∈ avs, v.category = 1) (hlen : avs.length ≤ M.2.2.1)
    (g : Go M d w.1 0 (avs.map some ++ List.replicate (M.2.2.1 - avs.length) none) [] w (zwm M) (zws M) Q) : MOk d M avs w Q := by
  intro hz l dC dI dA loc sz
  refine Met.ofW (ws' := wsL_law) (cc := M.2.1) (maxL := M.2.2.1) (ret := M.2.2.2.1) hpl rfl ?_
  intro p e s m args below meth c s₁ B hml hv
  obtain ⟨rfl, hsz, hP, hK, hD0, hE⟩ := hv
  subst hsz
  have hcat : ∀ v ∈ avs.map (zv loc), v.category = 1 := by
    intro v hv
    obtain ⟨u, hu, rfl⟩ := List.mem_map.mp hv
    rw [zv_cat]
    exact hav u hu
  have hl := lv_entry (avs.map (zv loc)) (n := M.2.2.1) (by rw [zargs_len hcat, List.length_map]; exact hlen)
  rw [lg_entry_eq]
  generalize (lg_sl (avs.map (zv loc)) ++ List.replicate (M.2.2.1 - (lg_sl (avs.map (zv loc))).length) Slot.unset).toArray = ls at hl ⊢
  have hlv : zlv loc ls (avs.map some ++ List.replicate (M.2.2.1 - avs.length) none) := by
    refine ⟨by rw [hl.1]; simp; omega, hl.2.1, fun i v hv => ?_⟩
    have hi : i < avs.length := by
      rcases Nat.lt_or_ge i avs.length with q | q
      · exact q
      · rw [List.getElem?_append_right (by rw [List.length_map]; exact q), List.getElem?_replicate] at hv
        split at hv <;> simp at hv
    rw [List.getElem?_append_left (by rw [List.length_map]; exact hi), List.getElem?_map] at hv
    have hv2 : avs[i]? = some v := by
      cases h : avs[i]? with
      | none => rw [h] at hv; simp at hv
      | some u => rw [h] at hv; simp at hv; rw [hv]
    refine ⟨?_, hav v (List.mem_of_getElem? hv2)⟩
    have := zargs_mem hcat 0 i (zv loc v) (by rw [List.getElem?_map, hv2]; rfl)
    rw [Nat.zero_add] at this
    exact hl.2.2 _ this
  have hA : zAct M w.1 p s m (avs.map (zv loc)).toArray meth c dC dI dA loc w :=
    ⟨B.exec, B.bytes, B.returns, hml, findClass_of_methodNamed B.named, atoms_spec (ws := zWd0 M :: wsL_law) B.pre, B.notSynchronized, hK, hE, (name_of_methodNamed B.named B.method).1, rfl, hz, hself⟩
  exact g p l e s m (avs.map (zv loc)).toArray below meth c dC dI dA loc w s.heap [] 0 0 loc ls hA ⟨fun _ _ => rfl, hP, hD0.self, va_S.rf, hlv, by simp; omega, Nat.zero_add _, Nat.zero_add _, Nat.le_refl _, Nat.le_refl _⟩
/-- what was made and isn't needed any more may be forgotten -/
theorem MOk.drop {avs : List Value} (h : MOk d M avs w Q) : MOk d M avs w (fun r w' => ∃ w2 : zWd, Q r w2 ∧ w' = (w.1, w2.2)) := by
  intro hz l dC dI dA loc sz
  have h1 := h hz l dC dI dA loc sz
  exact fun p e2 ha hc hk s m args below hf happ hp hK => by
    obtain ⟨t, o, b1, b2, b3, ⟨⟨r, w2, loc', f1, f2, f3, f4, f5, f6, f7⟩, b5⟩, b6⟩ := h1 p e2 ha hc hk s m args below hf happ hp hK
    refine ⟨t, o, b1, b2, b3, ⟨⟨r, (w.1, w2.2), loc', f1, ⟨w2, f2, rfl⟩, Nat.le_refl _, Nat.le_add_right _ _, f5, ?_, ?_⟩, b5⟩, b6⟩
    · rw [zw_trim f3]
      exact f6.sub _ rfl
    · rw [zw_trim f3]
      exact f7.sub (List.range w.1) (zw_trim_nd _) (by
        apply List.ext_getElem?
        intro i
        by_cases hi : i < w.1
        · rw [← zw_trim f3]
          simp only [List.getElem?_map, List.getElem?_range hi, Option.map_some]
          rw [zw_get (w := (w.1, w2.2)) hi, zw_get (Nat.lt_of_lt_of_le hi f3)]
          rfl
        · rw [← zw_trim f3, List.getElem?_eq_none (by simp; omega), List.getElem?_eq_none (by simp [zw]; omega)])
end ZD
