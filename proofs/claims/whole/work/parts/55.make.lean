/-! what is made: arrays and objects; statics copied; what was made is forgotten -/
/-- the world behind may be any that is the same below -/
theorem MOk.to {d : Nat} {M : zMth} {avs : List Value} {w : zWd} {Q : Option Value → zWd → Prop} (h : MOk d M avs w (fun r w2 => ∃ w', Q r w' ∧ w'.1 = w.1 ∧ ∀ i, i < w.1 → w'.2 i = w2.2 i)) : MOk d M avs w Q := by
  intro hz l dC dI dA loc sz
  have h1 := h.drop hz l dC dI dA loc sz
  exact fun p e2 ha hc hk s m args below hf happ hp hK => by
    obtain ⟨t, o, b1, b2, b3, ⟨⟨r, w2, loc', f1, ⟨w3, ⟨w4, g1, g2, g3⟩, rfl⟩, f3, f4, f5, f6, f7⟩, b5⟩, b6⟩ := h1 p e2 ha hc hk s m args below hf happ hp hK
    have e : zw dA loc' (w.1, w3.2) = zw dA loc' w4 := by
      unfold zw
      rw [g2]
      exact List.map_congr_left (fun i hi => by rw [g3 i (List.mem_range.mp hi)])
    exact ⟨t, o, b1, b2, b3, ⟨⟨r, w4, loc', f1, g1, by omega, by omega, f5, by rw [← e]; exact f6, by rw [← e]; exact f7⟩, b5⟩, b6⟩
theorem va_RA_nm {U : State} {cA : ClassId} {ty : FieldType} (h : va_RA U cA ty) : U.vm.findClass ("[" ++ ty.toString) = some cA := by
  cases ty <;> first | exact h | (obtain ⟨_, _, _, _, _, h4⟩ := h; exact h4)
theorem zdA_eq {dC : Nat → ClassId} {dI : Nat → Nat → Nat} {dA : Nat → ClassId} {s : State} {cA : ClassId} {ty : FieldType} {t : Nat} (ht : t < 6) (hty : zTy t = ty) (h0 : va_K (dC, dI) vwCl (zty dA) s) (h : va_K (dC, dI) vwCl (zty dA ++ [(cA, ty)]) s) : cA = dA t := by
  have h1 := va_RA_nm (h0.2 t _ (zty_at ht)).2
  have h2 := va_RA_nm (h.2 6 (cA, ty) (by rw [List.getElem?_append_right (by simp [zty])]; simp [zty])).2
  dsimp only at h1 h2
  rw [hty] at h1
  exact Option.some.inj (h2.symm.trans h1)
section ZMK
variable {M : zMth} {d w0n pc : Nat} {lv : List (Option Value)} {st : List Value} {w : zWd} {rc rs : Nat} {Q : Option Value → zWd → Prop}
/-- nothing names the place that comes next -/
def zfr (w : zWd) (lv : List (Option Value)) (st : List Value) : Prop := (∀ i, i < w.1 → zfrC w.1 (w.2 i)) ∧ (∀ v, some v ∈ lv → v ≠ .ref w.1) ∧ ∀ v ∈ st, v ≠ .ref w.1
theorem zfr.map {loc : Nat → Nat} {q : Nat} (h : zfr w lv st) : st.map (zv (zext loc w.1 q)) = st.map (zv loc) := List.map_congr_left fun v hv => zv_ext (h.2.2 v hv)
theorem zHere.made {s : State} {dC : Nat → ClassId} {dI : Nat → Nat → Nat} {dA : Nat → ClassId} {loc0 : Nat → Nat} {w0 : zWd} {H H1 : Heap} {locs : List Loc} {cells slots : Nat} {loc : Nat → Nat} {ls : Array Slot} {x : zCE} {q n : Nat}
    (hH : zHere M w0n s dC dI dA loc0 w0 H locs cells slots loc ls lv w rc rs) (hf : zfr w lv st) (hx : zfrC w.1 x) (h1 : 1 ≤ rc) (hn : n ≤ rs)
    (hP : va_P (dC, dI) vwCl (zw dA loc w ++ [(q, zc dA loc x)]) H1) (hD : va_D (zA dA loc0 w0 s.heap.size) (zw dA loc w ++ [(q, zc dA loc x)])) (hS : va_S (zA dA loc0 w0 s.heap.size) s.heap H1 locs) :
    zHere M w0n s dC dI dA loc0 w0 H1 locs (cells + 1) (slots + n) (zext loc w.1 q) ls lv (zpush w x) (rc - 1) (rs - n) := by
  obtain ⟨g1, g2, g3, g4, g5, g6, g7, g8, g9, g10⟩ := hH
  rw [zw_push hf.1 hx] at hP hD
  refine ⟨fun i hi => ?_, hP, hD, hS, g5.ext (fun v hv => zv_ext (hf.2.1 v hv)), g6, by omega, by omega, by show w0n ≤ w.1 + 1; omega, by show w.1 + 1 + (rc - 1) ≤ _; omega⟩
  have : i ≠ w.1 := by omega
  unfold zext
  rw [if_neg this]
  exact g1 i hi
theorem zA_ge {dA : Nat → ClassId} {loc0 : Nat → Nat} {w0 : zWd} {sz : Nat} : ∀ q, sz ≤ q → zA dA loc0 w0 sz q := fun _ h => Or.inr h
theorem Go.newa {atype : ArrayType} {t N : Nat} {n : Int32} (hd : decode M.2.1 pc = .ok (.newarray atype, 2)) (ht : t < 3) (hty : zTy t = newarray.typeOf atype) (hw : Cond.arrayClass (newarray.typeOf atype) ∈ wsL_law) (hdef : defaultValue (newarray.typeOf atype) = .int 0) (hn : ¬ n < 0) (hN : n.toNatClampNeg = N) (hb : N * componentBytes (newarray.typeOf atype) ≤ 536870912) (hrc : 1 ≤ rc) (hrs : N ≤ rs) (hf : zfr w lv st)
    (k : Go M d w0n (pc + 2) lv (.ref w.1 :: st) (zpush w (.inl (t, N, .inl (fun _ => 0)))) (rc - 1) (rs - N) Q) : Go M d w0n pc lv (.int n :: st) w rc rs Q := by
  intro p' l e s m args below meth c dC dI dA loc0 w0 H locs cells slots loc ls hA hH
  have hK := hA.2.2.2.2.2.2.2.1
  have hc1 := hH.2.2.2.2.2.2.1
  have hc2 := hH.2.2.2.2.2.2.2.1
  refine va_newa (atype := atype) (D := (dC, dI)) (a0 := (N, .inl (fun _ => 0))) hA.1 hA.2.1 (Go.zts hA hw) rfl hK hH.2.1 hH.2.2.1 hH.2.2.2.1 zA_ge (fun cA => ?_) hn hN hb (by show cells + 1 ≤ zwm M; omega) (by show slots + N ≤ zws M; omega) hd (fun q cA H1 q1 q2 q3 q4 => ?_)
  · rw [hdef]; rfl
  · have hcA := zdA_eq (t := t) (by omega) hty hK q1
    subst hcA
    have hH' := hH.made (x := .inl (t, N, .inl (fun _ => 0))) (q := q) (n := N) hf trivial hrc hrs q2 q3 q4
    have G := k p' l e s m args below meth c dC dI dA loc0 w0 H1 locs (cells + 1) (slots + N) (zext loc w.1 q) ls hA hH'
    rw [zmap_ref (a := q) (by simp [zext]), hf.map] at G
    exact G
theorem Go.anew {idx t N : Nat} {C : String} {n : Int32} (hd : decode M.2.1 pc = .ok (.anewarray idx, 3)) (ht : t < 6) (hty : zTy t = .object C) (hw : Cond.classLink (zRn M.2.2.2.2.1) idx C ∈ wsL_law) (ho : C = "CrewPairer$Plan" ∨ C = "java/lang/String") (hn : ¬ n < 0) (hN : n.toNatClampNeg = N) (hb : N * 4 ≤ 536870912) (hrc : 1 ≤ rc) (hrs : N ≤ rs) (hf : zfr w lv st)
    (k : Go M d w0n (pc + 3) lv (.ref w.1 :: st) (zpush w (.inl (t, N, .inr (.inr (.inr (.inr (fun _ => none))))))) (rc - 1) (rs - N) Q) : Go M d w0n pc lv (.int n :: st) w rc rs Q := by
  intro p' l e s m args below meth c dC dI dA loc0 w0 H locs cells slots loc ls hA hH
  have hK := hA.2.2.2.2.2.2.2.1
  have hc1 := hH.2.2.2.2.2.2.1
  have hc2 := hH.2.2.2.2.2.2.2.1
  have hAO : va_AO C s := by
    rcases ho with rfl | rfl
    · exact (Go.zenv hA).2.2.2.2.2.1
    · exact (Go.zenv hA).2.2.2.2.2.2.1
  refine va_newq (D := (dC, dI)) hA.1 hA.2.1 (Go.zown hA) (Go.zts hA hw) hAO hK hH.2.1 hH.2.2.1 hH.2.2.2.1 zA_ge hn hN hb (by show cells + 1 ≤ zwm M; omega) (by show slots + N ≤ zws M; omega) hd (fun q cA H1 q1 q2 q3 q4 => ?_)
  have hcA := zdA_eq (t := t) ht hty hK q1
  subst hcA
  have hH' := hH.made (x := .inl (t, N, .inr (.inr (.inr (.inr (fun _ => none)))))) (q := q) (n := N) hf (fun i h => by cases h) hrc hrs q2 q3 q4
  have G := k p' l e s m args below meth c dC dI dA loc0 w0 H1 locs (cells + 1) (slots + N) (zext loc w.1 q) ls hA hH'
  rw [zmap_ref (a := q) (by simp [zext]), hf.map] at G
  exact G
/-- a String constant into an array -/
theorem Go.aastS {p n j : Nat} {f : Nat → Option Nat} {i : Int32} (hd : decode M.2.1 pc = .ok (.aastore, 1)) (hp : p < w.1) (hw : w.2 p = .inl (5, n, .inr (.inr (.inr (.inr f))))) (hi : vp_in i n) (hj : j < 12)
    (k : Go M d w0n (pc + 1) lv st (zup w p (.inl (5, n, .inr (.inr (.inr (.inr (va_up f i.toNatClampNeg (some (zS + j))))))))) rc rs Q) : Go M d w0n pc lv (.ref (zS + j) :: .int i :: .ref p :: st) w rc rs Q := by
  intro p' l e s m args below meth c dC dI dA loc0 w0 H locs cells slots loc ls hA hH
  rw [zmap_ref (Go.zlocS hA hH), List.map_cons, List.map_cons]
  have hr := vk_recv (Go.zenv hA).2.2.1.1 hj hH.2.2.2.1
  have hmap : (fun i_1 => (va_up f i.toNatClampNeg (some (zS + j)) i_1).map loc) = va_up (fun i => (f i).map loc) i.toNatClampNeg (some (loc0 (zS + j))) := by
    funext x
    unfold va_up
    split
    · rw [Option.map_some, Go.zlocS hA hH]
    · rfl
  refine vb_astq (D := (dC, dI)) (C := "java/lang/String") hA.1 hA.2.1 hA.2.2.2.2.2.2.2.1 hH.2.1 hH.2.2.1 hH.2.2.2.1 p 5 (zw_refs hp hw) (zty_at (by decide)) hr (fun comp c0 h1 h2 => ?_) hi hd (fun H1 locs1 hP hD hS => ?_)
  · rw [h1] at h2
    cases h2
    exact va_asg _ _
  · have e1 : (zw dA loc w).set p (loc p, .inl (dA 5, n, .inr (.inr (.inr (.inr (va_up (fun i => (f i).map loc) i.toNatClampNeg (some (loc0 (zS + j))))))))) = zw dA loc (zup w p (.inl (5, n, .inr (.inr (.inr (.inr (va_up f i.toNatClampNeg (some (zS + j))))))))) := by
      rw [← zw_set hp]
      show _ = (zw dA loc w).set p (loc p, .inl (dA 5, n, .inr (.inr (.inr (.inr _)))))
      rw [hmap]
    exact k _ _ _ _ _ _ _ _ _ _ _ _ _ _ _ _ _ _ _ _ hA (hH.heap (w' := zup w p (.inl (5, n, .inr (.inr (.inr (.inr (va_up f i.toNatClampNeg (some (zS + j))))))))) rfl (by rw [← e1]; exact hP) (by rw [← e1]; exact hD) hS)
end ZMK
