/-! constructors: objects, their arrays, statics copied -/
section ZCO
variable {p : Program} {l : Launch} {e : Env} {R : Room} {s : State} {m : MethodId} {args : Array Value} {below : List Frame} {meth : Method} {c : Code} {H : Heap} {locs : List Loc} {cells slots : Nat} {Q : State → Prop}
variable {cc : ByteArray} {pc : Nat} {ls : Array Slot} {rest : List Value} {D : va_G} {cl : List vw_C} {A : Nat → Prop} {a : Nat} {tys : List (ClassId × FieldType)} {ws : va_W}
theorem zint_nn {z : Int32} (hz : ¬ z < 0) : z.toInt = (z.toNatClampNeg : Int) := by
  have h := Int32.le_iff_toInt_le.mp (Int32.not_lt.mp hz)
  have h0 : (0 : Int) ≤ z.toInt := by simpa using h
  show z.toInt = ((z.toInt.toNat : Nat) : Int)
  omega
/-- a static int array into an own one -/
theorem z_copyS (hexec : p.tables.exec = Jvm.exec) (hb : c.code = cc) (hml : c.maxLocals = ls.size) {own : String} {index : Nat} (hown : s.vm.findClass own = some m.cls) (hlink : (Cond.methodLink own index arraycopyName).before args s = true) (hnat : (Cond.native arraycopyName).before args s = true) (hstat : (Cond.static arraycopyName).before args s = true) (hini : (Cond.initialized "java/lang/System").before args s = true)
    (hK : va_K D cl tys s) (hP : va_P D cl ws H) (hD : va_D A ws) (hS : va_S A s.heap H locs) {b0 n0 : Nat} {f : Nat → Int32} (hX : va_T .int b0 n0 (fun j => .int (f j)) A s s.heap) (q1 t1 : Nat) {c1 : ClassId} {n1 : Nat} {g : Nat → Int32} (ha1 : ws[q1]? = some (a, .inl (c1, n1, .inl g))) (ht1 : tys[t1]? = some (c1, .int))
    {sp dp n : Int32} (h1 : ¬ sp < 0) (h2 : ¬ dp < 0) (h3 : ¬ n < 0) (h4 : sp.toNatClampNeg + n.toNatClampNeg ≤ n0) (h5 : dp.toNatClampNeg + n.toNatClampNeg ≤ n1)
    (hframes : 1 ≤ R.frames) (hlocals : (rest.map fun v => v.category).sum + (nativeFrameWords "java/lang/System" "arraycopy" 5 + 11) ≤ R.locals) (hdg : decode cc pc = .ok (.invokestatic index, 3))
    (kk : ∀ (H1 : Heap) (locs1 : List Loc), va_P D cl (ws.set q1 (a, .inl (c1, n1, .inl (va_cpy f g sp.toNatClampNeg dp.toNatClampNeg n.toNatClampNeg)))) H1 → va_D A (ws.set q1 (a, .inl (c1, n1, .inl (va_cpy f g sp.toNatClampNeg dp.toNatClampNeg n.toNatClampNeg)))) → va_S A s.heap H1 locs1 → W p l e R s m args below meth c H1 locs1 cells slots Q (F0 m (pc + 3) ls rest)) : W p l e R s m args below meth c H locs cells slots Q (F0 m pc ls (.int n :: .int dp :: .ref a :: .int sp :: .ref b0 :: rest)) := by
  intro T hT X
  obtain ⟨src, hs1, hs2, hs3, hs4, -, hs5, hs7⟩ := hX
  have hc0 : H[b0]? = some src := by rw [hS.2.1 b0 (Array.getElem?_eq_some_iff.mp hs1).1 hs7]; exact hs1
  have hc1 : H[a]? = some (vp_cell c1 (n1, .inl g)) := hP q1 _ ha1
  obtain ⟨hs6, k0, hk0, cm0, hkk0⟩ := hs2
  obtain ⟨-, k1, hk1, cm1, hkk1⟩ := (hK.2 t1 _ ht1).1 n1 (fun j => .int (g j))
  have i1 := zint_nn h1
  have i2 := zint_nn h2
  have i3 := zint_nn h3
  obtain ⟨vm', X', step⟩ := X.arraycopy hexec hown hlink hnat hstat hini (src := b0) (dst := a) (cs := src) (cd := vp_cell c1 (n1, .inl g)) (srcPos := sp) (destPos := dp) (n := n) (by rw [hT]; exact hc0) (by rw [hT]; exact hc1)
    hs6 (fun _ h => by cases h) hs3 (fun h => by cases h) hk0 hk1 hkk0 hkk1 (by simp [refKind]) h1 h2 h3
    (by rw [i1, i3]; omega)
    (by rw [i2, i3]; show ¬ _ > ((arrV c1 n1 (fun j => .int (g j))).slots.size : Int); rw [arrV_size]; omega)
    (fun vm₁ _ i hi => by
      have e : src.slots.getD (sp.toNatClampNeg + i) .null = .int (f (sp.toNatClampNeg + i)) := by
        rw [Array.getD_eq_getD_getElem?, hs5 _ (by omega)]
        rfl
      refine ⟨?_, ?_⟩
      · rw [e]; rfl
      · rw [e]; exact trivial)
    (g := F0 m pc ls (.int n :: .int dp :: .ref a :: .int sp :: .ref b0 :: rest)) rfl (by rw [hml]) (rest := rest) rfl (by rw [hb]; exact hdg) hframes (by show 2 * 0 + _ + _ ≤ _; omega)
  have e1 : copied src (vp_cell c1 (n1, .inl g)) sp dp n = vp_cell c1 (n1, .inl (va_cpy f g sp.toNatClampNeg dp.toNatClampNeg n.toNatClampNeg)) := va_copiedX (fun z => .int z) src c1 f g hs5 h4
  rw [e1] at X' step
  have hl : a < H.size := (Array.getElem?_eq_some_iff.mp hc1).1
  have hheap : ((T.setVm vm').setCell a (vp_cell c1 (n1, .inl (va_cpy f g sp.toNatClampNeg dp.toNatClampNeg n.toNatClampNeg)))).heap = H.setIfInBounds a (vp_cell c1 (n1, .inl (va_cpy f g sp.toNatClampNeg dp.toNatClampNeg n.toNatClampNeg))) := by rw [← hT]; rfl
  have oq : ∀ q : Nat, q ≠ a → (H.setIfInBounds a (vp_cell c1 (n1, .inl (va_cpy f g sp.toNatClampNeg dp.toNatClampNeg n.toNatClampNeg))))[q]? = H[q]? := fun q hq => by simp [Array.getElem?_setIfInBounds, Ne.symm hq]
  obtain ⟨t, a1, b1⟩ := kk _ _ (hP.set hD ha1 (show (H.setIfInBounds a _)[a]? = some _ by simp [Array.getElem?_setIfInBounds, hl]) oq) (hD.set ha1) ⟨by simp; exact hS.1, fun q g1 g2 => by
      rw [oq q (fun e => g2 (by rw [e]; exact hD.2 q1 _ ha1))]
      exact hS.2.1 q g1 g2, fun q hq => by
      rcases List.mem_append.mp hq with h | h
      · exact hS.2.2 q h
      · obtain ⟨z, -, hz⟩ := List.mem_map.mp h
        rw [← hz]
        exact hD.2 q1 _ ha1⟩ _ hheap X'
  exact ⟨t, step t a1, b1⟩
end ZCO
section ZCN
variable {M : zMth} {d w0n pc : Nat} {lv : List (Option Value)} {st : List Value} {w : zWd} {rc rs : Nat} {Q : Option Value → zWd → Prop}
theorem zob_i : Cond.instanceMethod objectInit ∈ wsL_law := zr_1 _ (List.mem_of_getElem? (i := 10) rfl)
theorem zob_c : Cond.code objectInit ⟨#[0xb1]⟩ 1 none ∈ wsL_law := zr_1 _ (List.mem_of_getElem? (i := 11) rfl)
theorem Go.objI {idx q : Nat} (hd : decode M.2.1 pc = .ok (.invokespecial idx, 3)) (hl : Cond.methodLink (zRn M.2.2.2.2.1) idx objectInit ∈ wsL_law) (hst : (st.map fun v => v.category).sum ≤ 8) (k : Go M (d + 1) w0n (pc + 3) lv st w rc rs Q) : Go M (d + 1) w0n pc lv (.ref q :: st) w rc rs Q := by
  intro p' l e s m args below meth c dC dI dA loc0 w0 H locs cells slots loc ls hA hH
  have h9 : 2 * (F0 m pc ls ((Value.ref q :: st).map (zv loc))).monitorRoom + ((st.map (zv loc)).map fun v => v.category).sum ≤ 8 := lv_room (by rw [zcats]; exact hst)
  refine W.objInit (R := zRm (d + 1) (zwm M) (zws M)) hA.1 hA.2.1 (Go.zown hA) (Go.zts hA hl) (Go.zts hA zob_i) (Go.zts hA zob_c) rfl (hH.2.2.2.2.1.1.trans (hH.2.2.2.2.2.1.trans hA.2.2.2.1.symm)) rfl hd (show 1 ≤ d + 1 by omega) ?_ (k p' l e s m args below meth c dC dI dA loc0 w0 H locs cells slots loc ls hA hH)
  show _ ≤ 60 * (d + 1)
  omega
theorem Go.copyS {idx j q n1 : Nat} {g : Nat → Int32} {sp dp n : Int32} (hd : decode M.2.1 pc = .ok (.invokestatic idx, 3)) (hl : zcpS M.2.2.2.2.1 idx) (hj : j < 7) (hq : q < w.1) (hwq : w.2 q = .inl (0, n1, .inl g))
    (h1 : ¬ sp < 0) (h2 : ¬ dp < 0) (h3 : ¬ n < 0) (h4 : sp.toNatClampNeg + n.toNatClampNeg ≤ (zStL j).length) (h5 : dp.toNatClampNeg + n.toNatClampNeg ≤ n1) (hst : (st.map fun v => v.category).sum ≤ 8)
    (k : Go M (d + 1) w0n (pc + 3) lv st (zup w q (.inl (0, n1, .inl (va_cpy (fun i => (zStL j).getD i 0) g sp.toNatClampNeg dp.toNatClampNeg n.toNatClampNeg)))) rc rs Q) : Go M (d + 1) w0n pc lv (.int n :: .int dp :: .ref q :: .int sp :: .ref (zB + j) :: st) w rc rs Q := by
  intro p' l e s m args below meth c dC dI dA loc0 w0 H locs cells slots loc ls hA hH
  have hts := hA.2.2.2.2.2.1
  have hroom : ((st.map (zv loc)).map fun v => v.category).sum + (nativeFrameWords "java/lang/System" "arraycopy" 5 + 11) ≤ 60 * (d + 1) := by
    have h9 := zcat_sum (loc := loc) hst
    have e9 : nativeFrameWords "java/lang/System" "arraycopy" 5 ≤ 30 := by decide
    omega
  have hfr : 1 ≤ d + 1 := by omega
  have hlo : loc (zB + j) = loc0 (zB + j) := by
    have hz := hA.2.2.2.2.2.2.2.2.2.2.2.1
    exact hH.1 _ (Or.inr (by omega))
  have hX := ((Go.zenv hA).1 j hj).2
  rw [← hlo] at hX
  refine z_copyS (R := zRm (d + 1) (zwm M) (zws M)) (D := (dC, dI)) hA.1 hA.2.1 (by rw [hA.2.2.2.1, hH.2.2.2.2.1.1, hH.2.2.2.2.2.1]) (Go.zown hA) (hts _ (List.mem_cons_of_mem _ (zcpS_ok hl))) (hts _ (List.mem_cons_of_mem _ zcp_nat)) (hts _ (List.mem_cons_of_mem _ zcp_stat)) (hts _ (List.mem_cons_of_mem _ zcp_ini)) hA.2.2.2.2.2.2.2.1 hH.2.1 hH.2.2.1 hH.2.2.2.1 hX q 0 (zw_arr hq hwq) (zty_at (by decide)) h1 h2 h3 h4 h5 hfr hroom hd (fun H1 locs1 hP hD hS => ?_)
  exact k _ _ _ _ _ _ _ _ _ _ _ _ _ _ _ _ _ _ _ _ hA (hH.heap (w' := zup w q (.inl (0, n1, .inl (va_cpy (fun i => (zStL j).getD i 0) g sp.toNatClampNeg dp.toNatClampNeg n.toNatClampNeg)))) rfl (by rw [← zw_set hq]; exact hP) (by rw [← zw_set hq]; exact hD) hS)
/-- a new object -/
theorem Go.new {idx ci N : Nat} {C : String} {fs : List Value} (hd : decode M.2.1 pc = .ok (.new idx, 3)) (hci : ci < 10) (hC : zRn ci = C) (hN : zFn ci = N) (hcl : Cond.classLink (zRn M.2.2.2.2.1) idx C ∈ wsL_law) (hins : Cond.instantiable C N ∈ wsL_law) (hini : Cond.initialized C ∈ wsL_law)
    (hfs : ∀ j, j < N → defaultValue (zFt ci j) = vp_V fs j) (hzv : ∀ loc, fs.map (zv loc) = fs) (hfr : zfrC w.1 (.inr (ci, fs))) (hrc : 1 ≤ rc) (hrs : N ≤ rs) (hf : zfr w lv st)
    (k : Go M d w0n (pc + 3) lv (.ref w.1 :: st) (zpush w (.inr (ci, fs))) (rc - 1) (rs - N) Q) : Go M d w0n pc lv st w rc rs Q := by
  subst hC
  subst hN
  intro p' l e s m args below meth c dC dI dA loc0 w0 H locs cells slots loc ls hA hH
  have hK := hA.2.2.2.2.2.2.2.1
  have hc1 := hH.2.2.2.2.2.2.1
  have hc2 := hH.2.2.2.2.2.2.2.1
  refine va_new (ci := ci) (fs := fs) (D := (dC, dI)) hA.1 hA.2.1 (Ts := zWd0 M :: wsL_law) hA.2.2.2.2.2.1 (fun x hx => List.mem_cons_of_mem _ (zin_ok ci hci x hx)) (zFt ci) (zFt_ok ci hci) (Go.zown hA) (Go.zts hA hcl) (Go.zts hA hins) (Go.zts hA hini) hK hH.2.1 hH.2.2.1 hH.2.2.2.1 zA_ge (zcl ci hci) hfs (by show cells + 1 ≤ zwm M; omega) (by show slots + zFn ci ≤ zws M; omega) hd (fun q H1 q2 q3 q4 => ?_)
  have ez : zc dA loc (.inr (ci, fs)) = .inr (ci, fs) := congrArg (fun z => (Sum.inr (ci, z) : va_E)) (hzv loc)
  have hH' := hH.made (x := .inr (ci, fs)) (q := q) (n := zFn ci) hf hfr hrc hrs (by rw [ez]; exact q2) (by rw [ez]; exact q3) q4
  have G := k p' l e s m args below meth c dC dI dA loc0 w0 H1 locs (cells + 1) (slots + zFn ci) (zext loc w.1 q) ls hA hH'
  rw [zmap_ref (a := q) (by simp [zext]), hf.map] at G
  exact G
/-- a plan into an array of plans -/
theorem Go.aastP {q n r : Nat} {fs : List Value} {f : Nat → Option Nat} {i : Int32} (hd : decode M.2.1 pc = .ok (.aastore, 1)) (hp : q < w.1) (hw : w.2 q = .inl (4, n, .inr (.inr (.inr (.inr f))))) (hi : vp_in i n) (hr : r < w.1) (hwr : w.2 r = .inr (3, fs))
    (k : Go M d w0n (pc + 1) lv st (zup w q (.inl (4, n, .inr (.inr (.inr (.inr (va_up f i.toNatClampNeg (some r)))))))) rc rs Q) : Go M d w0n pc lv (.ref r :: .int i :: .ref q :: st) w rc rs Q := by
  intro p' l e s m args below meth c dC dI dA loc0 w0 H locs cells slots loc ls hA hH
  have hmap : (fun i_1 => (va_up f i.toNatClampNeg (some r) i_1).map loc) = va_up (fun i => (f i).map loc) i.toNatClampNeg (some (loc r)) := by
    funext x
    unfold va_up
    split <;> rfl
  refine va_astq (D := (dC, dI)) hA.1 hA.2.1 hA.2.2.2.2.2.2.2.1 hH.2.1 hH.2.2.1 hH.2.2.2.1 q 4 r 3 (r := (zRn 3, zFd 3, zFn 3)) (zw_refs hp hw) (zty_at (by decide)) (zw_obj hr hwr) (zcl 3 (by decide)) hi hd (fun H1 locs1 hP hD hS => ?_)
  have e1 : (zw dA loc w).set q (loc q, .inl (dA 4, n, .inr (.inr (.inr (.inr (va_up (fun i => (f i).map loc) i.toNatClampNeg (some (loc r)))))))) = zw dA loc (zup w q (.inl (4, n, .inr (.inr (.inr (.inr (va_up f i.toNatClampNeg (some r)))))))) := by
    rw [← zw_set hp]
    show _ = (zw dA loc w).set q (loc q, .inl (dA 4, n, .inr (.inr (.inr (.inr _)))))
    rw [hmap]
  exact k _ _ _ _ _ _ _ _ _ _ _ _ _ _ _ _ _ _ _ _ hA (hH.heap (w' := zup w q (.inl (4, n, .inr (.inr (.inr (.inr (va_up f i.toNatClampNeg (some r)))))))) rfl (by rw [← e1]; exact hP) (by rw [← e1]; exact hD) hS)
end ZCN
