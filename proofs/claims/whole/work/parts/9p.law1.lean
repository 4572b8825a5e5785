/-! the law: two systems in one heap -/
section ZLW
variable {p : Program} {l : Launch} {e : Env} {s : State} {m : MethodId} {below : List Frame} {meth : Method} {c : Code} {dC : Nat → ClassId} {dI : Nat → Nat → Nat} {dA : Nat → ClassId} {H : Heap} {locs : List Loc} {cells slots : Nat} {loc loc2 : Nat → Nat} {w w2 : zWd} {b L : Nat} {xs : Nat → Int32} {Q : State → Prop}
/-- what holds through the law -/
def lwFix (p : Program) (s : State) (m : MethodId) (c : Code) (b L : Nat) (xs : Nat → Int32) (dC : Nat → ClassId) (dI : Nat → Nat → Nat) (dA : Nat → ClassId) : Prop :=
  p.tables.exec = Jvm.exec ∧ c.code = code ∧ c.maxLocals = 4 ∧ s.vm.findClass "CrewPairerLaw" = some m.cls ∧ (∀ w ∈ wsL_law, w.before #[Value.ref b] s = true) ∧ va_X b L xs s s.heap ∧ b < s.heap.size ∧ va_K (dC, dI) vwCl (zty dA) s
/-- one system at loc, another at loc2 -/
def lwP (s : State) (G : va_G) (dA : Nat → ClassId) (loc : Nat → Nat) (w : zWd) (loc2 : Nat → Nat) (w2 : zWd) (H : Heap) (locs : List Loc) : Prop :=
  va_P G vwCl (zw dA loc w) H ∧ va_D (fun q => s.heap.size ≤ q) (zw dA loc w) ∧ va_P G vwCl (zw dA loc2 w2) H ∧ va_D (fun q => s.heap.size ≤ q) (zw dA loc2 w2) ∧ (∀ i, i < w.1 → ∀ j, j < w2.1 → loc i ≠ loc2 j) ∧ va_S (fun q => s.heap.size ≤ q) s.heap H locs
theorem lwP.swap {G : va_G} (h : lwP s G dA loc w loc2 w2 H locs) : lwP s G dA loc2 w2 loc w H locs := by
  obtain ⟨h1, h2, h3, h4, h5, h6⟩ := h
  exact ⟨h3, h4, h1, h2, fun i hi j hj e => h5 j hj i hi e.symm, h6⟩
theorem lwP.after {G : va_G} {loc' : Nat → Nat} {w' : zWd} {H' : Heap} {Lx : List Loc} {mc : Nat} (h : lwP s G dA loc w loc2 w2 H locs) (hloc : ∀ i, (i < w.1 ∨ w.1 + mc ≤ i) → loc' i = loc i) (hle : w.1 ≤ w'.1)
    (hP' : va_P G vwCl (zw dA loc' w') H') (hD' : va_D (zA dA loc w H.size) (zw dA loc' w')) (hz : H.size ≤ H'.size) (hk : ∀ q : Nat, q < H.size → ¬ zA dA loc w H.size q → H'[q]? = H[q]?) (hL : ∀ q ∈ Lx, zA dA loc w H.size q.base) : lwP s G dA loc' w' loc2 w2 H' (locs ++ Lx) := by
  obtain ⟨h1, h2, h3, h4, h5, h6⟩ := h
  have hin : ∀ q, zA dA loc w H.size q → s.heap.size ≤ q := by
    intro q h
    rcases h with ⟨k, e, h⟩ | h
    · exact h2.2 k (q, e) h
    · exact Nat.le_trans h6.1 h
  have hlt : ∀ j, j < w2.1 → loc2 j < H.size := fun j hj => (h3 j _ (zw_get hj)).lt
  have hno : ∀ j, j < w2.1 → ¬ zA dA loc w H.size (loc2 j) := by
    intro j hj hq
    rcases hq with ⟨k, e, hk⟩ | hk
    · have hk1 : k < w.1 := by
        have := (List.getElem?_eq_some_iff.mp hk).1
        rwa [zw_len] at this
      rw [zw_get hk1] at hk
      have e1 : loc k = loc2 j := congrArg Prod.fst (Option.some.inj hk)
      exact h5 k hk1 j hj e1
    · have := hlt j hj
      omega
  refine ⟨hP', hD'.weaken (fun _ _ _ hq => hin _ hq), h3.kept (fun k q hk0 => ?_), h4, fun i hi j hj e => hno j hj ?_, Nat.le_trans h6.1 hz, fun q g1 g2 => ?_, fun q hq => ?_⟩
  · have hk1 : k < w2.1 := by
      have := (List.getElem?_eq_some_iff.mp hk0).1
      rwa [zw_len] at this
    rw [zw_get hk1] at hk0
    have e1 : loc2 k = q.1 := congrArg Prod.fst (Option.some.inj hk0)
    rw [← e1]
    exact hk _ (hlt k hk1) (hno k hk1)
  · rw [← e]
    exact hD'.2 i _ (zw_get hi)
  · rw [hk q (Nat.lt_of_lt_of_le g1 h6.1) (fun z => g2 (hin q z))]
    exact h6.2.1 q g1 g2
  · rcases List.mem_append.mp hq with h | h
    · exact h6.2.2 q h
    · exact hin _ (hL q h)
theorem lwP.pre (hF : lwFix p s m c b L xs dC dI dA) (hE : zEnv loc (fun q => s.heap.size ≤ q) s s.heap) (h : lwP s (dC, dI) dA loc w loc2 w2 H locs) (U : State) (hU : U.heap = H) (hW : s.WarmedH U.vm) : zPre dC dI dA loc w H.size U := by
  obtain ⟨h1, h2, h3, h4, h5, h6⟩ := h
  have hin : ∀ q, zA dA loc w H.size q → s.heap.size ≤ q := by
    intro q h
    rcases h with ⟨k, e, h⟩ | h
    · exact h2.2 k (q, e) h
    · exact Nat.le_trans h6.1 h
  have hE1 : zEnv loc (zA dA loc w H.size) s H := (hE.kept (fun a ha hn => h6.2.1 a ha hn)).narrow hin
  refine ⟨by rw [hU], by rw [hU]; exact h1, va_K.moved hW.alike hF.2.2.2.2.2.2.2, h2.weaken (fun _ _ _ _ => trivial), ?_⟩
  rw [hU]
  exact hE1.warm hW
/-- what the tables say of a method that the law calls -/
def lwM (q : zMth) (idx n ci : Nat) : Prop := zWd0 q ∈ wsL_law ∧ Cond.methodLink "CrewPairerLaw" idx q.1 ∈ wsL_law ∧ Cond.instanceMethod q.1 ∈ wsL_law ∧ Cond.initialized (zRn ci) ∈ wsL_law ∧ ci < 10 ∧ q.1.cls = zRn ci ∧
  (q.1.cls ≠ "java/lang/invoke/MethodHandle" ∧ q.1.cls ≠ "java/lang/invoke/VarHandle" ∧ (parseMethodDescriptor q.1.desc).map (fun d => d.parameters.length) = some n) ∧ q.2.2.1 ≤ 41
theorem lwRoom {q : zMth} {d : Nat} (hm : q.2.2.1 ≤ 41) (hd : d ≤ 40) : (zRm d (zwm q) (zws q)).frames + 1 ≤ room_1.frames ∧ 8 + (q.2.2.1 + 11) + (zRm d (zwm q) (zws q)).locals ≤ room_1.locals := by
  refine ⟨?_, ?_⟩
  · show d + 1 ≤ 2048
    omega
  · show 8 + (q.2.2.1 + 11) + 60 * d ≤ 84000
    omega
/-- a call, by its run -/
theorem lw_run {q : zMth} {Qk : Option Value → zWd → Prop} {pc : Nat} {ls : Array Slot} {st0 rest : List Value} {a : Array Value} (h : lwP s (dC, dI) dA loc w loc2 w2 H locs)
    (run : va_Run p l e room_1 s m #[Value.ref b] below meth c H locs cells slots (zwm q) (zws q) (F0 m pc ls st0) rest (zQ dC dI dA loc w (zwm q) H.size Qk a) (zA dA loc w H.size))
    (g : ∀ r w' loc' H' locs', Qk r w' → (∀ i, (i < w.1 ∨ w.1 + zwm q ≤ i) → loc' i = loc i) → w.1 ≤ w'.1 → lwP s (dC, dI) dA loc' w' loc2 w2 H' locs' → W p l e room_1 s m #[Value.ref b] below meth c H' locs' (cells + zwm q) (slots + zws q) Q (F0 m (pc + 3) ls ((r.map (zv loc')).toList ++ rest))) :
    W p l e room_1 s m #[Value.ref b] below meth c H locs cells slots Q (F0 m pc ls st0) := by
  intro T hT X
  obtain ⟨v, st₀, t, T', Lx, h0, X', hL, e1, e2, ⟨⟨r, w', loc', hv, hq, hle, hle2, hloc, hP', hD'⟩, hz, hk⟩, stp⟩ := run T hT X
  have hv' : v = r.map (zv loc') := by injection hv
  subst hv'
  rw [h0] at hz hk
  have h' : lwP s (dC, dI) dA loc' w' loc2 w2 T'.heap (locs ++ Lx) := h.after hloc hle (by rw [e1]; exact hP') hD' (by rw [e1]; exact hz) (by rw [e1]; exact hk) hL
  obtain ⟨t2, a1, b1⟩ := g r w' loc' T'.heap (locs ++ Lx) hq hloc hle h' T' rfl X'
  exact ⟨t2, stp t2 a1, b1⟩
theorem lw_callV {q : zMth} {Qk : Option Value → zWd → Prop} {pc idx n ci d : Nat} {fs : List Value} {ls : Array Slot} {As rest : List Value} (hF : lwFix p s m c b L xs dC dI dA) (hE : zEnv loc (fun q => s.heap.size ≤ q) s s.heap) (h : lwP s (dC, dI) dA loc w loc2 w2 H locs)
    (hM : lwM q idx n ci) (hsel : Cond.selects (zRn ci) q.1 q.1 ∈ wsL_law) (hn : As.length = n) (hd : d ≤ 40) (hw0 : 0 < w.1) (hw : w.2 0 = .inr (ci, fs)) (hz : w.1 + zwm q ≤ zB) (hAs : As.map (zv loc) = As) (hrest : (rest.map fun v => v.category).sum ≤ 8) (hls : ls.size = 4)
    (hdg : decode code pc = .ok (.invokevirtual idx, 3)) (hc : cells + zwm q ≤ 600000 ∧ slots + zws q ≤ 7302250) (hmok : MOk d q (.ref 0 :: As) w Qk)
    (g : ∀ r w' loc' H' locs', Qk r w' → (∀ i, (i < w.1 ∨ w.1 + zwm q ≤ i) → loc' i = loc i) → w.1 ≤ w'.1 → lwP s (dC, dI) dA loc' w' loc2 w2 H' locs' → W p l e room_1 s m #[Value.ref b] below meth c H' locs' (cells + zwm q) (slots + zws q) Q (F0 m (pc + 3) ls ((r.map (zv loc')).toList ++ rest))) :
    W p l e room_1 s m #[Value.ref b] below meth c H locs cells slots Q (F0 m pc ls (As.reverse ++ .ref (loc 0) :: rest)) := by
  obtain ⟨c1, c2, c3, c4, c5, c6, c7, c8⟩ := hM
  have hMet := hmok hz l dC dI dA loc H.size
  have hrecv := va_recv hF.2.2.2.2.2.2.2 h.1 (zcl ci c5) (zw_obj (dA := dA) (loc := loc) hw0 hw)
  have hts : ∀ x ∈ wsL_law, x.before #[Value.ref b] s = true := hF.2.2.2.2.1
  have hpre : ∀ U : State, U.heap = H → s.WarmedH U.vm → va_Pc ((Value.ref 0 :: As).map (zv loc)) (zPre dC dI dA loc w H.size) (Value.ref (loc 0) :: As).toArray U := fun U hU hW => ⟨by rw [List.map_cons, hAs]; rfl, h.pre hF hE U hU hW⟩
  refine lw_run h (va_runV (C := zRn ci) (own := "CrewPairerLaw") (Ts := wsL_law) (n := n) (index := idx) (As := As) (b := loc 0) ⟨hF.1, hF.2.1, hF.2.2.1, hF.2.2.2.1, hts⟩ hMet (cwV (ws' := wsL_law) (bytes := q.2.1) (maxL := q.2.2.1) (ret := q.2.2.2.1) n hts (fun x hx => ?_) rfl rfl rfl ⟨c6, c7⟩ (lwRoom c8 hd)) ⟨zPre_blind, hrecv, hpre⟩ rfl hn hls rfl (lv_room hrest) hdg hc) g
  have hx2 : x ∈ wsL_law := by
    rcases List.mem_append.mp hx with hx | hx
    · simp only [List.mem_cons, List.not_mem_nil, or_false] at hx
      rcases hx with rfl | rfl | rfl | rfl
      · exact c2
      · exact c3
      · exact hsel
      · exact c4
    · rcases List.mem_cons.mp hx with rfl | hx
      · exact c1
      · exact hx
  exact ⟨hx2, zgood x hx2⟩
theorem lw_callI {q : zMth} {Qk : Option Value → zWd → Prop} {pc idx n ci d : Nat} {ls : Array Slot} {rest : List Value} (hF : lwFix p s m c b L xs dC dI dA) (hE : zEnv loc (fun q => s.heap.size ≤ q) s s.heap) (h : lwP s (dC, dI) dA loc w loc2 w2 H locs)
    (hM : lwM q idx 0 ci) (hnm : q.1.name = "<init>") (hret : q.2.2.2.1 = none) (hd : d ≤ 40) (hz : w.1 + zwm q ≤ zB) (hrest : (rest.map fun v => v.category).sum ≤ 8) (hls : ls.size = 4)
    (hdg : decode code pc = .ok (.invokespecial idx, 3)) (hc : cells + zwm q ≤ 600000 ∧ slots + zws q ≤ 7302250) (hmok : MOk d q [.ref 0] w Qk)
    (g : ∀ r w' loc' H' locs', Qk r w' → (∀ i, (i < w.1 ∨ w.1 + zwm q ≤ i) → loc' i = loc i) → w.1 ≤ w'.1 → lwP s (dC, dI) dA loc' w' loc2 w2 H' locs' → W p l e room_1 s m #[Value.ref b] below meth c H' locs' (cells + zwm q) (slots + zws q) Q (F0 m (pc + 3) ls ((r.map (zv loc')).toList ++ rest))) :
    W p l e room_1 s m #[Value.ref b] below meth c H locs cells slots Q (F0 m pc ls (.ref (loc 0) :: rest)) := by
  obtain ⟨c1, c2, c3, c4, c5, c6, c7, c8⟩ := hM
  have hMet := hmok hz l dC dI dA loc H.size
  have hts : ∀ x ∈ wsL_law, x.before #[Value.ref b] s = true := hF.2.2.2.2.1
  have hpre : ∀ U : State, U.heap = H → s.WarmedH U.vm → va_Pc ([Value.ref 0].map (zv loc)) (zPre dC dI dA loc w H.size) [Value.ref (loc 0)].toArray U := fun U hU hW => ⟨rfl, h.pre hF hE U hU hW⟩
  refine lw_run h (va_runI (own := "CrewPairerLaw") (Ts := wsL_law) (n := 0) (index := idx) (As := []) (b := loc 0) ⟨hF.1, hF.2.1, hF.2.2.1, hF.2.2.2.1, hts⟩ hMet (cwI (ws' := wsL_law) (bytes := q.2.1) (maxL := q.2.2.1) 0 hts (fun x hx => ?_) (by show zWd0 q :: wsL_law = _; rw [zWd0, hret]) rfl rfl (hts _ (by rw [c6]; exact c4)) (hts _ c2) (hts _ c3) hnm c7 (lwRoom c8 hd)) ⟨zPre_blind, hpre⟩ rfl rfl hls rfl (lv_room hrest) hdg hc) g
  have hx2 : x ∈ wsL_law := by
    rcases List.mem_cons.mp hx with rfl | hx
    · exact c1
    · exact hx
  exact ⟨hx2, zgood x hx2⟩
end ZLW
