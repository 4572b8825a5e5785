/-! an object's arrays and objects, one after another -/
section ZMK2
variable {M : zMth} {d w0n pc : Nat} {lv : List (Option Value)} {st : List Value} {w : zWd} {rc rs : Nat} {Q : Option Value → zWd → Prop} {W0 : Nat → zCE} {n0 p ci : Nat} {fs : List Value} {cs : List zCE}
theorem Go.hz (h : w0n + zwm M ≤ zB → Go M d w0n pc lv st w rc rs Q) : Go M d w0n pc lv st w rc rs Q := by
  intro p' l e s m args below meth c dC dI dA loc0 w0 H locs cells slots loc ls hA hH
  exact h hA.2.2.2.2.2.2.2.2.2.2.2.1 p' l e s m args below meth c dC dI dA loc0 w0 H locs cells slots loc ls hA hH
theorem Go.pB {n : Int} (hd : decode M.2.1 pc = .ok (.bipush n, 2)) (h : -128 ≤ n ∧ n < 128) (g : Go M d w0n (pc + 2) lv (.int (Int32.ofInt n) :: st) w rc rs Q) : Go M d w0n pc lv st w rc rs Q := Go.bipush hd (by rw [zI8 h]; exact g)
theorem Go.pS {n : Int} (hd : decode M.2.1 pc = .ok (.sipush n, 3)) (h : -32768 ≤ n ∧ n < 32768) (g : Go M d w0n (pc + 3) lv (.int (Int32.ofInt n) :: st) w rc rs Q) : Go M d w0n pc lv st w rc rs Q := Go.sipush hd (by rw [zI16 h]; exact g)
theorem Go.pI {n : Int} (hd : decode M.2.1 pc = .ok (.iconst n, 1)) (g : Go M d w0n (pc + 1) lv (.int (Int32.ofInt n) :: st) w rc rs Q) : Go M d w0n pc lv st w rc rs Q := Go.iconst hd g
theorem Go.mkf {pc1 idx k t N : Nat} {atype : ArrayType} {n : Int32} (hB : Bld w W0 n0 p ci fs cs) (hz : n0 + cs.length < zB) (hl : lv[0]? = some (some (.ref p))) (hlv : ∀ q : Nat, some (Value.ref q) ∈ lv → q < n0)
    (d0 : decode M.2.1 pc = .ok (.aload_n 0, 1)) (hp : Go M d w0n pc1 lv [.int n, .ref p] w rc rs Q → Go M d w0n (pc + 1) lv [.ref p] w rc rs Q) (d2 : decode M.2.1 pc1 = .ok (.newarray atype, 2)) (d3 : decode M.2.1 (pc1 + 2) = .ok (.putfield idx, 3))
    (ht : t < 3) (hty : zTy t = newarray.typeOf atype) (hw : Cond.arrayClass (newarray.typeOf atype) ∈ wsL_law) (hdef : defaultValue (newarray.typeOf atype) = .int 0) (hn : ¬ n < 0) (hN : n.toNatClampNeg = N) (hb : N * componentBytes (newarray.typeOf atype) ≤ 536870912)
    (hf : zF M.2.2.2.2.1 idx = some (ci, k)) (hk : k < fs.length) (hr : (zFt ci k).isReference = true) (hfin : (zFd ci k).2.2.2 = false ∨ (M.1.name = "<init>" ∧ (zFd ci k).1 = zRn M.2.2.2.2.1)) (hrc : 1 ≤ rc) (hrs : N ≤ rs)
    (g : ∀ w', Bld w' W0 n0 p ci (fs.set k (.ref (n0 + cs.length))) (cs ++ [.inl (t, N, .inl (fun _ => 0))]) → Go M d w0n (pc1 + 5) lv [] w' (rc - 1) (rs - N) Q) : Go M d w0n pc lv [] w rc rs Q := by
  have e : w.1 = n0 + cs.length := hB.1
  refine Go.aload_n d0 hl (hp ?_)
  refine Go.newa d2 ht hty hw hdef hn hN hb hrc hrs ((hB.frW hlv (fun q hq => by
    have : q = p := by simpa using hq
    exact Or.inl (by rw [this]; exact hB.lt))).zfr (by omega)) ?_
  have hB2 := hB.push (x := .inl (t, N, .inl (fun _ => 0))) trivial
  refine Go.putf d3 hf hB2.lt hB2.2.2.2.1 hk (show zfit (zFt ci k) (.ref w.1) from hr) hfin ?_
  refine g _ ?_
  rw [← e]
  exact hB2.set (fun q z => by cases z; show w.1 < w.1 + 1; omega)
/-- a call of a nest mate's constructor -/
theorem Go.callN {idx b : Nat} {q : zMth} {rest : List Value} (hd : decode M.2.1 pc = .ok (.invokespecial idx, 3)) (hM : M.2.2.2.2.1 = 8) (hnw : ∀ U, zNwM U → va_Nw (.methodLinkNest "CrewPairer" idx q.1 "CrewPairer") U) (hcode : zWd0 q ∈ wsL_law) (hins : Cond.instanceMethod q.1 ∈ wsL_law) (hini : Cond.initialized q.1.cls ∈ wsL_law) (hnm : q.1.name = "<init>") (hret : q.2.2.2.1 = none)
    (hdd : q.1.cls ≠ "java/lang/invoke/MethodHandle" ∧ q.1.cls ≠ "java/lang/invoke/VarHandle" ∧ (parseMethodDescriptor q.1.desc).map (fun d => d.parameters.length) = some 0) (hm : q.2.2.1 ≤ 41)
    (hrest : (rest.map fun v => v.category).sum ≤ 8) (hrc : zwm q ≤ rc) (hrs : zws q ≤ rs) (hf1 : zfrL w.1 (zwm q) (zlvs lv)) (hf2 : zfrL w.1 (zwm q) rest)
    (g : MOk d q [.ref b] w (fun r w' => Go M (d + 1) w0n (pc + 3) lv (r.toList ++ rest) w' (rc - zwm q) (rs - zws q) Q)) : Go M (d + 1) w0n pc lv (.ref b :: rest) w rc rs Q := by
  intro p l e s m args below meth c dC dI dA loc0 w0 H locs cells slots loc ls hA hH
  have hown := Go.zown hA
  rw [hM] at hown
  have hz : w.1 + zwm q ≤ zB := by
    have := hA.2.2.2.2.2.2.2.2.2.2.2.1
    have := hH.2.2.2.2.2.2.2.2.2
    omega
  have hMet := g hz l dC dI dA loc H.size
  have hts := hA.2.2.2.2.2.1
  have hst : (Value.ref b :: rest).map (zv loc) = ([] : List Value).reverse ++ .ref (loc b) :: rest.map (zv loc) := rfl
  rw [hst]
  refine Go.cont (q := q) (Qk := _) (rest := rest) (lv := lv) (rc := rc) (rs := rs) hA hH hrc hrs hf1 hf2 (va_runIN (As := []) ⟨hA.1, hA.2.1, hA.2.2.2.1, hown, hts⟩ hMet ⟨va_cnB (ws' := wsL_law) 0 hts (zgoodIn ?_) (by show zWd0 q :: wsL_law = _; rw [zWd0, hret]) rfl rfl (hnw _ (Go.zenv hA).2.2.2.2.1) (hts _ (List.mem_cons_of_mem _ hini)) ⟨hdd.1, hdd.2.1, hdd.2.2⟩ (zroom hm), hnm, hts _ (List.mem_cons_of_mem _ hins)⟩ ⟨zPre_blind, fun U hU hW => ⟨rfl, hH.pre hA U hU hW⟩⟩ rfl rfl (hH.2.2.2.2.1.1.trans hH.2.2.2.2.2.1) rfl (lv_room (by rw [zcats]; exact hrest)) hd ⟨?_, ?_⟩) (fun r w' h => h)
  · intro x hx
    rcases List.mem_cons.mp hx with rfl | hx
    · exact hcode
    · exact hx
  · have := hH.2.2.2.2.2.2.1
    show cells + zwm q ≤ zwm M
    omega
  · have := hH.2.2.2.2.2.2.2.1
    show slots + zws q ≤ zws M
    omega
/-- a constructor without arguments fills the object that came last -/
def Con (d : Nat) (q : zMth) (ci : Nat) (fs0 : List Value) (fsF : Nat → List Value) (csF : Nat → List zCE) : Prop := ∀ (w : zWd) (b : Nat) (K : Option Value → zWd → Prop), w.1 = b + 1 → (∀ i, i < w.1 → zbC w.1 (w.2 i)) → w.2 b = .inr (ci, fs0) → (∀ w', Bld w' w.2 w.1 b ci (fsF b) (csF b) → K none w') → MOk d q [.ref b] w K
theorem Bld.lvs {q : Nat} (hB : Bld w W0 n0 p ci fs cs) {k : Nat} (hlv : ∀ q : Nat, some (Value.ref q) ∈ lv → q < n0) (hq : n0 ≤ q) : zfrL q k (zlvs lv) := by
  refine Or.inr (fun v hv i e => Or.inl ?_)
  subst e
  obtain ⟨x, hx, e⟩ := List.mem_filterMap.mp hv
  have e : x = some (.ref i) := e
  subst e
  exact Nat.lt_of_lt_of_le (hlv i hx) hq
/-- a new object by its own constructor, put into a field -/
theorem Go.mkO {idn idc idx k cj N : Nat} {C : String} {q : zMth} {fs0 : List Value} {fsF : Nat → List Value} {csF : Nat → List zCE} (hB : Bld w W0 n0 p ci fs cs) (hz : n0 + cs.length < zB) (hl : lv[0]? = some (some (.ref p))) (hlv : ∀ q : Nat, some (Value.ref q) ∈ lv → q < n0)
    (d0 : decode M.2.1 pc = .ok (.aload_n 0, 1)) (d1 : decode M.2.1 (pc + 1) = .ok (.new idn, 3)) (d2 : decode M.2.1 (pc + 4) = .ok (.dup, 1)) (d4 : decode M.2.1 (pc + 8) = .ok (.putfield idx, 3))
    (hcj : cj < 10) (hC : zRn cj = C) (hN : zFn cj = N) (hcl : Cond.classLink (zRn M.2.2.2.2.1) idn C ∈ wsL_law) (hins : Cond.instantiable C N ∈ wsL_law) (hini : Cond.initialized C ∈ wsL_law) (hfs : ∀ j, j < N → defaultValue (zFt cj j) = vp_V fs0 j) (hzv : ∀ loc, fs0.map (zv loc) = fs0) (hnr : ∀ v : Nat, Value.ref v ∉ fs0)
    (hcall : ∀ (w2 : zWd) (rc2 rs2 : Nat), w2.1 = w.1 + 1 → zwm q ≤ rc2 → zws q ≤ rs2 → MOk d q [.ref w.1] w2 (fun r w' => Go M (d + 1) w0n (pc + 8) lv (r.toList ++ [.ref w.1, .ref p]) w' (rc2 - zwm q) (rs2 - zws q) Q) → Go M (d + 1) w0n (pc + 5) lv [.ref w.1, .ref w.1, .ref p] w2 rc2 rs2 Q)
    (hcon : Con d q cj fs0 fsF csF) (hf : zF M.2.2.2.2.1 idx = some (ci, k)) (hk : k < fs.length) (hr : (zFt ci k).isReference = true) (hfin : (zFd ci k).2.2.2 = false ∨ (M.1.name = "<init>" ∧ (zFd ci k).1 = zRn M.2.2.2.2.1)) (hrc : 1 + zwm q ≤ rc) (hrs : N + zws q ≤ rs)
    (g : ∀ w', Bld w' W0 n0 p ci (fs.set k (.ref (n0 + cs.length))) (cs ++ (.inr (cj, fsF (n0 + cs.length)) :: csF (n0 + cs.length))) → Go M (d + 1) w0n (pc + 11) lv [] w' (rc - 1 - zwm q) (rs - N - zws q) Q) : Go M (d + 1) w0n pc lv [] w rc rs Q := by
  have e : w.1 = n0 + cs.length := hB.1
  have hps : ∀ x : Nat, Value.ref x ∈ [Value.ref p] → x < w.1 ∨ zB ≤ x := fun x hx => by
    have : x = p := by simpa using hx
    exact Or.inl (by rw [this]; exact hB.lt)
  refine Go.aload_n d0 hl ?_
  have hfr0 : ∀ m, zbC m (.inr (cj, fs0)) := fun m v hv => absurd hv (hnr v)
  refine Go.new d1 hcj hC hN hcl hins hini hfs hzv ((hfr0 w.1).fr _ (Nat.le_refl _)) (by omega) (by omega) ((hB.frW hlv hps).zfr (by omega)) ?_
  have hB2 := hB.push (x := .inr (cj, fs0)) (hfr0 _)
  refine Go.dup d2 rfl ?_
  refine hcall _ _ _ rfl (by omega) (by omega) ?_
  refine hcon _ w.1 _ rfl hB2.2.2.1 (by show (if w.1 = w.1 then _ else _) = _; rw [if_pos rfl]) (fun w' hB' => ?_)
  have hB3 := hB.join (x := .inr (cj, fs0)) hB'
  refine Go.putf d4 hf hB3.lt hB3.2.2.2.1 hk (show zfit (zFt ci k) (.ref w.1) from hr) hfin ?_
  refine g _ ?_
  rw [← e]
  refine hB3.set (fun x z => ?_)
  cases z
  have := hB3.1
  simp at this
  omega
end ZMK2
