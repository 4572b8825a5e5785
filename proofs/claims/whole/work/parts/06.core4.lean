/-! the heap, and the end -/
section ZI
variable {M : zMth} {d w0n pc : Nat} {lv : List (Option Value)} {st : List Value} {w : zWd} {rc rs : Nat} {Q : Option Value → zWd → Prop}
theorem zw_obj {dA : Nat → ClassId} {loc : Nat → Nat} {w : zWd} {p ci : Nat} {fs : List Value} (hp : p < w.1) (hw : w.2 p = .inr (ci, fs)) : (zw dA loc w)[p]? = some (loc p, .inr (ci, fs.map (zv loc))) := by
  rw [zw_get hp, hw]; rfl
theorem zw_arr {dA : Nat → ClassId} {loc : Nat → Nat} {w : zWd} {p t n : Nat} {f : Nat → Int32} (hp : p < w.1) (hw : w.2 p = .inl (t, n, .inl f)) : (zw dA loc w)[p]? = some (loc p, .inl (dA t, n, .inl f)) := by
  rw [zw_get hp, hw]; rfl
theorem zw_refs {dA : Nat → ClassId} {loc : Nat → Nat} {w : zWd} {p t n : Nat} {g : Nat → Option Nat} (hp : p < w.1) (hw : w.2 p = .inl (t, n, .inr (.inr (.inr (.inr g))))) : (zw dA loc w)[p]? = some (loc p, .inl (dA t, n, .inr (.inr (.inr (.inr (fun i => (g i).map loc)))))) := by
  rw [zw_get hp, hw]; rfl
/-- a value may stand in a field of this type -/
def zfit (ty : FieldType) (v : Value) : Prop := match v with
  | .int x => narrow ty (.int x) = .int x ∧ fits ty (.int x) = true
  | .ref _ => ty.isReference = true
  | _ => False
theorem zfit.use {ty : FieldType} {v : Value} {loc : Nat → Nat} (h : zfit ty v) : narrow ty (zv loc v) = zv loc v ∧ fits ty (zv loc v) = true := by
  cases v <;> try exact absurd h id
  · exact h
  · rename_i a
    cases ty <;> first | exact ⟨rfl, rfl⟩ | exact absurd h (by simp [zfit, FieldType.isReference])
theorem zHere.heap {s : State} {dC : Nat → ClassId} {dI : Nat → Nat → Nat} {dA : Nat → ClassId} {loc0 : Nat → Nat} {w0 w' : zWd} {H H1 : Heap} {locs locs1 : List Loc} {cells slots : Nat} {loc : Nat → Nat} {ls : Array Slot}
    (hH : zHere M w0n s dC dI dA loc0 w0 H locs cells slots loc ls lv w rc rs) (hw : w'.1 = w.1) (hP : va_P (dC, dI) vwCl (zw dA loc w') H1) (hD : va_D (zA dA loc0 w0 s.heap.size) (zw dA loc w')) (hS : va_S (zA dA loc0 w0 s.heap.size) s.heap H1 locs1) :
    zHere M w0n s dC dI dA loc0 w0 H1 locs1 cells slots loc ls lv w' rc rs := by
  obtain ⟨h1, h2, h3, h4, h5, h6, h7, h8, h9, h10⟩ := hH
  exact ⟨h1, hP, hD, hS, h5, h6, h7, h8, by rw [hw]; exact h9, by rw [hw]; exact h10⟩
theorem Go.getf {idx ci k p : Nat} {fs : List Value} {v : Value} (hd : decode M.2.1 pc = .ok (.getfield idx, 3)) (hf : zF M.2.2.2.2.1 idx = some (ci, k)) (hp : p < w.1) (hw : w.2 p = .inr (ci, fs)) (hv : fs[k]? = some v) (g : Go M d w0n (pc + 3) lv (v :: st) w rc rs Q) : Go M d w0n pc lv (.ref p :: st) w rc rs Q := by
  intro p' l e s m args below meth c dC dI dA loc0 w0 H locs cells slots loc ls hA hH
  obtain ⟨h1, h2, h3⟩ := zF_ok hf
  have hown := hA.2.2.2.2.1
  rw [hA.2.2.2.2.2.2.2.2.2.2.2.2] at hown
  exact va_get (D := (dC, dI)) hA.1 hA.2.1 (Ts := zWd0 M :: wsL_law) hA.2.2.2.2.2.1 (fun x hx => List.mem_cons_of_mem _ (zin_ok ci h1 x hx)) hown hA.2.2.2.2.2.2.2.1 hH.2.1 p (zw_obj hp hw) (zcl ci h1) k h2 (hA.2.2.2.2.2.1 _ (List.mem_cons_of_mem _ h3)) (fun _ h => h) (v := zv loc v) (by rw [List.getElem?_map, hv]; rfl) hd
    (g _ _ _ _ _ _ _ _ _ _ _ _ _ _ _ _ _ _ _ _ hA hH)
theorem Go.putf {idx ci k p : Nat} {fs : List Value} {v : Value} (hd : decode M.2.1 pc = .ok (.putfield idx, 3)) (hf : zF M.2.2.2.2.1 idx = some (ci, k)) (hp : p < w.1) (hw : w.2 p = .inr (ci, fs)) (hl : k < fs.length) (hv : zfit (zFt ci k) v) (hfin : (zFd ci k).2.2.2 = false ∨ (M.1.name = "<init>" ∧ (zFd ci k).1 = zRn M.2.2.2.2.1))
    (g : Go M d w0n (pc + 3) lv st (zup w p (.inr (ci, fs.set k v))) rc rs Q) : Go M d w0n pc lv (v :: .ref p :: st) w rc rs Q := by
  intro p' l e s m args below meth c dC dI dA loc0 w0 H locs cells slots loc ls hA hH
  obtain ⟨h1, h2, h3⟩ := zF_ok hf
  have hown := hA.2.2.2.2.1
  rw [hA.2.2.2.2.2.2.2.2.2.2.2.2] at hown
  obtain ⟨n1, n2⟩ := hv.use (loc := loc)
  have kk : ∀ (H1 : Heap) (locs1 : List Loc), va_P (dC, dI) vwCl ((zw dA loc w).set p (loc p, .inr (ci, (fs.map (zv loc)).set k (zv loc v)))) H1 → va_D (zA dA loc0 w0 s.heap.size) ((zw dA loc w).set p (loc p, .inr (ci, (fs.map (zv loc)).set k (zv loc v)))) → va_S (zA dA loc0 w0 s.heap.size) s.heap H1 locs1 →
      W p' l e (zRm d (zwm M) (zws M)) s m args below meth c H1 locs1 cells slots (MQ below (zQ dC dI dA loc0 w0 (zwm M) s.heap.size Q) args s (zwm M) (zws M) (zA dA loc0 w0 s.heap.size)) (F0 m (pc + 3) ls (st.map (zv loc))) := by
    intro H1 locs1 hP hD hS
    have e : (zw dA loc w).set p (loc p, .inr (ci, (fs.map (zv loc)).set k (zv loc v))) = zw dA loc (zup w p (.inr (ci, fs.set k v))) := by
      rw [← zw_set hp]
      simp only [zc, List.map_set]
    rw [e] at hP hD
    exact g _ _ _ _ _ _ _ _ _ _ _ _ _ _ _ _ _ _ _ _ hA (hH.heap (w' := zup w p (.inr (ci, fs.set k v))) rfl hP hD hS)
  cases hb : (zFd ci k).2.2.2 with
  | false =>
    exact va_put (D := (dC, dI)) hA.1 hA.2.1 (Ts := zWd0 M :: wsL_law) hA.2.2.2.2.2.1 (fun x hx => List.mem_cons_of_mem _ (zin_ok ci h1 x hx)) (zFt ci) (zFt_ok ci h1) (znm_ok ci h1) hown hA.2.2.2.2.2.2.2.1 hH.2.1 hH.2.2.1 hH.2.2.2.1 p (zw_obj hp hw) (zcl ci h1) k h2 (hA.2.2.2.2.2.1 _ (List.mem_cons_of_mem _ h3)) (fun _ h => h) hb (zFt_ok ci h1 k h2) n1 n2 (by rw [List.length_map]; exact hl) hd kk
  | true =>
    rcases hfin with h | ⟨f1, f2⟩
    · rw [hb] at h; cases h
    · exact va_putF (D := (dC, dI)) hA.1 hA.2.1 (Ts := zWd0 M :: wsL_law) hA.2.2.2.2.2.1 (fun x hx => List.mem_cons_of_mem _ (zin_ok ci h1 x hx)) (zFt ci) (zFt_ok ci h1) (znm_ok ci h1) hown hA.2.2.2.2.2.2.2.1 hH.2.1 hH.2.2.1 hH.2.2.2.1 p (zw_obj hp hw) (zcl ci h1) k h2 (hA.2.2.2.2.2.1 _ (List.mem_cons_of_mem _ h3)) (fun _ h => h) hb (hA.2.2.2.2.2.2.2.2.2.1.trans f1) f2 (zFt_ok ci h1 k h2) n1 n2 (by rw [List.length_map]; exact hl) hd kk
theorem Go.iald {p n : Nat} {f : Nat → Int32} {i : Int32} (hd : decode M.2.1 pc = .ok (.iaload, 1)) (hp : p < w.1) (hw : w.2 p = .inl (0, n, .inl f)) (hi : vp_in i n) (g : Go M d w0n (pc + 1) lv (.int (f i.toNatClampNeg) :: st) w rc rs Q) : Go M d w0n pc lv (.int i :: .ref p :: st) w rc rs Q := by
  intro p' l e s m args below meth c dC dI dA loc0 w0 H locs cells slots loc ls hA hH
  exact va_iald (D := (dC, dI)) hA.1 hA.2.1 hA.2.2.2.2.2.2.2.1 hH.2.1 p 0 (zw_arr hp hw) (zty_at (by decide)) hi hd (g _ _ _ _ _ _ _ _ _ _ _ _ _ _ _ _ _ _ _ _ hA hH)
theorem Go.zald {p n : Nat} {f : Nat → Int32} {i : Int32} (hd : decode M.2.1 pc = .ok (.baload, 1)) (hp : p < w.1) (hw : w.2 p = .inl (1, n, .inl f)) (hi : vp_in i n) (g : Go M d w0n (pc + 1) lv (.int (f i.toNatClampNeg) :: st) w rc rs Q) : Go M d w0n pc lv (.int i :: .ref p :: st) w rc rs Q := by
  intro p' l e s m args below meth c dC dI dA loc0 w0 H locs cells slots loc ls hA hH
  exact va_zald (D := (dC, dI)) hA.1 hA.2.1 hA.2.2.2.2.2.2.2.1 hH.2.1 p 1 (zw_arr hp hw) (zty_at (by decide)) hi hd (g _ _ _ _ _ _ _ _ _ _ _ _ _ _ _ _ _ _ _ _ hA hH)
theorem Go.cald {p n : Nat} {f : Nat → Int32} {i : Int32} (hd : decode M.2.1 pc = .ok (.caload, 1)) (hp : p < w.1) (hw : w.2 p = .inl (2, n, .inl f)) (hi : vp_in i n) (g : Go M d w0n (pc + 1) lv (.int (f i.toNatClampNeg) :: st) w rc rs Q) : Go M d w0n pc lv (.int i :: .ref p :: st) w rc rs Q := by
  intro p' l e s m args below meth c dC dI dA loc0 w0 H locs cells slots loc ls hA hH
  exact va_cald (D := (dC, dI)) hA.1 hA.2.1 hA.2.2.2.2.2.2.2.1 hH.2.1 p 2 (zw_arr hp hw) (zty_at (by decide)) hi hd (g _ _ _ _ _ _ _ _ _ _ _ _ _ _ _ _ _ _ _ _ hA hH)
theorem Go.iast {p n : Nat} {f : Nat → Int32} {i x : Int32} (hd : decode M.2.1 pc = .ok (.iastore, 1)) (hp : p < w.1) (hw : w.2 p = .inl (0, n, .inl f)) (hi : vp_in i n) (g : Go M d w0n (pc + 1) lv st (zup w p (.inl (0, n, .inl (upd f i.toNatClampNeg x)))) rc rs Q) : Go M d w0n pc lv (.int x :: .int i :: .ref p :: st) w rc rs Q := by
  intro p' l e s m args below meth c dC dI dA loc0 w0 H locs cells slots loc ls hA hH
  refine va_iast (D := (dC, dI)) hA.1 hA.2.1 hA.2.2.2.2.2.2.2.1 hH.2.1 hH.2.2.1 hH.2.2.2.1 p 0 (zw_arr hp hw) (zty_at (by decide)) hi hd (fun H1 locs1 hP hD hS => ?_)
  exact g _ _ _ _ _ _ _ _ _ _ _ _ _ _ _ _ _ _ _ _ hA (hH.heap (w' := zup w p (.inl (0, n, .inl (upd f i.toNatClampNeg x)))) rfl (by rw [← zw_set hp]; exact hP) (by rw [← zw_set hp]; exact hD) hS)
theorem Go.zast {p n : Nat} {f : Nat → Int32} {i x : Int32} (hd : decode M.2.1 pc = .ok (.bastore, 1)) (hp : p < w.1) (hw : w.2 p = .inl (1, n, .inl f)) (hi : vp_in i n) (g : Go M d w0n (pc + 1) lv st (zup w p (.inl (1, n, .inl (upd f i.toNatClampNeg (vp_nar .boolean x))))) rc rs Q) : Go M d w0n pc lv (.int x :: .int i :: .ref p :: st) w rc rs Q := by
  intro p' l e s m args below meth c dC dI dA loc0 w0 H locs cells slots loc ls hA hH
  refine va_zast (D := (dC, dI)) hA.1 hA.2.1 hA.2.2.2.2.2.2.2.1 hH.2.1 hH.2.2.1 hH.2.2.2.1 p 1 (zw_arr hp hw) (zty_at (by decide)) hi hd (fun H1 locs1 hP hD hS => ?_)
  exact g _ _ _ _ _ _ _ _ _ _ _ _ _ _ _ _ _ _ _ _ hA (hH.heap (w' := zup w p (.inl (1, n, .inl (upd f i.toNatClampNeg (vp_nar .boolean x))))) rfl (by rw [← zw_set hp]; exact hP) (by rw [← zw_set hp]; exact hD) hS)
theorem Go.cast {p n : Nat} {f : Nat → Int32} {i x : Int32} (hd : decode M.2.1 pc = .ok (.castore, 1)) (hp : p < w.1) (hw : w.2 p = .inl (2, n, .inl f)) (hi : vp_in i n) (g : Go M d w0n (pc + 1) lv st (zup w p (.inl (2, n, .inl (upd f i.toNatClampNeg (vp_nar .char x))))) rc rs Q) : Go M d w0n pc lv (.int x :: .int i :: .ref p :: st) w rc rs Q := by
  intro p' l e s m args below meth c dC dI dA loc0 w0 H locs cells slots loc ls hA hH
  refine va_cast (D := (dC, dI)) hA.1 hA.2.1 hA.2.2.2.2.2.2.2.1 hH.2.1 hH.2.2.1 hH.2.2.2.1 p 2 (zw_arr hp hw) (zty_at (by decide)) hi hd (fun H1 locs1 hP hD hS => ?_)
  exact g _ _ _ _ _ _ _ _ _ _ _ _ _ _ _ _ _ _ _ _ hA (hH.heap (w' := zup w p (.inl (2, n, .inl (upd f i.toNatClampNeg (vp_nar .char x))))) rfl (by rw [← zw_set hp]; exact hP) (by rw [← zw_set hp]; exact hD) hS)
theorem Go.aldP {p n q : Nat} {f : Nat → Option Nat} {i : Int32} (hd : decode M.2.1 pc = .ok (.aaload, 1)) (hp : p < w.1) (hw : w.2 p = .inl (4, n, .inr (.inr (.inr (.inr f))))) (hi : vp_in i n) (hq : f i.toNatClampNeg = some q) (g : Go M d w0n (pc + 1) lv (.ref q :: st) w rc rs Q) : Go M d w0n pc lv (.int i :: .ref p :: st) w rc rs Q := by
  intro p' l e s m args below meth c dC dI dA loc0 w0 H locs cells slots loc ls hA hH
  refine va_aldq (D := (dC, dI)) hA.1 hA.2.1 hA.2.2.2.2.2.2.2.1 hH.2.1 p 4 (zw_refs hp hw) (zty_at (by decide)) hi hd ?_
  rw [hq]
  exact g _ _ _ _ _ _ _ _ _ _ _ _ _ _ _ _ _ _ _ _ hA hH
theorem Go.aldS {p n q : Nat} {f : Nat → Option Nat} {i : Int32} (hd : decode M.2.1 pc = .ok (.aaload, 1)) (hp : p < w.1) (hw : w.2 p = .inl (5, n, .inr (.inr (.inr (.inr f))))) (hi : vp_in i n) (hq : f i.toNatClampNeg = some q) (g : Go M d w0n (pc + 1) lv (.ref q :: st) w rc rs Q) : Go M d w0n pc lv (.int i :: .ref p :: st) w rc rs Q := by
  intro p' l e s m args below meth c dC dI dA loc0 w0 H locs cells slots loc ls hA hH
  refine va_aldq (D := (dC, dI)) hA.1 hA.2.1 hA.2.2.2.2.2.2.2.1 hH.2.1 p 5 (zw_refs hp hw) (zty_at (by decide)) hi hd ?_
  rw [hq]
  exact g _ _ _ _ _ _ _ _ _ _ _ _ _ _ _ _ _ _ _ _ hA hH
theorem Go.aldI {p n q : Nat} {f : Nat → Option Nat} {i : Int32} (hd : decode M.2.1 pc = .ok (.aaload, 1)) (hp : p < w.1) (hw : w.2 p = .inl (3, n, .inr (.inr (.inr (.inr f))))) (hi : vp_in i n) (hq : f i.toNatClampNeg = some q) (g : Go M d w0n (pc + 1) lv (.ref q :: st) w rc rs Q) : Go M d w0n pc lv (.int i :: .ref p :: st) w rc rs Q := by
  intro p' l e s m args below meth c dC dI dA loc0 w0 H locs cells slots loc ls hA hH
  have hlt : i.toNatClampNeg < n := Nat.not_le.mp fun q => hi (Or.inr q)
  have hcell := hH.2.1 p _ (zw_refs (dA := dA) (loc := loc) hp hw)
  refine W.aald (v := .ref (loc q)) (ty := .array .int) hA.1 hA.2.1 hcell ((hA.2.2.2.2.2.2.2.1.2 3 _ (zty_at (by decide))).1 n (fun j => va_rf ((f j).map loc))) rfl (fun q => by cases q) (by show ¬ (i < 0 ∨ (arrV _ _ _).slots.size ≤ _); rw [arrV_size]; exact hi) (by show (arrV _ _ _).slots[_]? = _; rw [arrV_read _ _ hlt]; show some (va_rf ((f i.toNatClampNeg).map loc)) = _; rw [hq]; rfl) rfl rfl hd ?_
  exact g _ _ _ _ _ _ _ _ _ _ _ _ _ _ _ _ _ _ _ _ hA hH
theorem Go.alen {p t : Nat} {x : vp_A} (hd : decode M.2.1 pc = .ok (.arraylength, 1)) (hp : p < w.1) (ht : t < 6) (hw : w.2 p = .inl (t, x)) (g : Go M d w0n (pc + 1) lv (.int (Int32.ofNat x.1) :: st) w rc rs Q) : Go M d w0n pc lv (.ref p :: st) w rc rs Q := by
  intro p' l e s m args below meth c dC dI dA loc0 w0 H locs cells slots loc ls hA hH
  have he : (zw dA loc w)[p]? = some (loc p, .inl (dA t, za loc x)) := by rw [zw_get hp, hw]; rfl
  have h1 : (za loc x).1 = x.1 := by
    obtain ⟨n, f | f | f | f | f⟩ := x <;> rfl
  exact va_alen (D := (dC, dI)) hA.1 hA.2.1 hA.2.2.2.2.2.2.2.1 hH.2.1 p t he (zty_at ht) (v := Int32.ofNat x.1) (by rw [h1]) hd (g _ _ _ _ _ _ _ _ _ _ _ _ _ _ _ _ _ _ _ _ hA hH)
theorem Go.dup2 {v u : Value} (hd : decode M.2.1 pc = .ok (.dup2, 1)) (hv : v.category = 1) (hu : u.category = 1) (g : Go M d w0n (pc + 1) lv (v :: u :: v :: u :: st) w rc rs Q) : Go M d w0n pc lv (v :: u :: st) w rc rs Q := by
  intro p l e s m args below meth c dC dI dA loc0 w0 H locs cells slots loc ls hA hH
  exact lv_dup2_11 hA.1 hA.2.1 hd (by rw [zv_cat]; exact hv) (by rw [zv_cat]; exact hu) (g _ _ _ _ _ _ _ _ _ _ _ _ _ _ _ _ _ _ _ _ hA hH)
/-- the end -/
theorem Go.iret {x : Int32} {ty : FieldType} (hd : decode M.2.1 pc = .ok (.ireturn, 1)) (hr : M.2.2.2.1 = some ty) (hn : narrow ty (.int x) = .int x) (hq : Q (some (.int x)) w) (hc : rc = 0 ∧ rs = 0) : Go M d w0n pc lv [.int x] w rc rs Q := by
  intro p l e s m args below meth c dC dI dA loc0 w0 H locs cells slots loc ls hA hH
  obtain ⟨h1, h2, h3, h4, h5, h6, h7, h8, h9, h10⟩ := hH
  obtain ⟨rfl, rfl⟩ := hc
  have e1 : cells = zwm M := by omega
  have e2 : slots = zws M := by omega
  subst e1; subst e2
  have hlk := hA.2.2.2.2.2.2.1
  have hw0 : w0.1 = w0n := hA.2.2.2.2.2.2.2.2.2.2.1
  exact W.zret (v := x) hA.1 hA.2.1 (hA.2.2.1.trans hr) hn (fun t ht hW => ⟨⟨some (.int x), w, loc, rfl, hq, by omega, by omega, by rw [hw0]; exact h1, by rw [ht]; exact h2, h3⟩, h4.F ht⟩) h4.2.2 hd
theorem Go.vret (hd : decode M.2.1 pc = .ok (.return_, 1)) (hr : M.2.2.2.1 = none) (hq : Q none w) (hc : rc = 0 ∧ rs = 0) : Go M d w0n pc lv [] w rc rs Q := by
  intro p l e s m args below meth c dC dI dA loc0 w0 H locs cells slots loc ls hA hH
  obtain ⟨h1, h2, h3, h4, h5, h6, h7, h8, h9, h10⟩ := hH
  obtain ⟨rfl, rfl⟩ := hc
  have e1 : cells = zwm M := by omega
  have e2 : slots = zws M := by omega
  subst e1; subst e2
  have hlk := hA.2.2.2.2.2.2.1
  have hw0 : w0.1 = w0n := hA.2.2.2.2.2.2.2.2.2.2.1
  exact W.vret hA.1 hA.2.1 (hA.2.2.1.trans hr) (fun t ht hW => ⟨⟨none, w, loc, rfl, hq, by omega, by omega, by rw [hw0]; exact h1, by rw [ht]; exact h2, h3⟩, h4.F ht⟩) h4.2.2 hd
theorem Go.aret {x : Nat} {n : String} (hd : decode M.2.1 pc = .ok (.areturn, 1)) (hr : M.2.2.2.1 = some (.object n)) (hq : Q (some (.ref x)) w) (hc : rc = 0 ∧ rs = 0) : Go M d w0n pc lv [.ref x] w rc rs Q := by
  intro p l e s m args below meth c dC dI dA loc0 w0 H locs cells slots loc ls hA hH
  obtain ⟨h1, h2, h3, h4, h5, h6, h7, h8, h9, h10⟩ := hH
  obtain ⟨rfl, rfl⟩ := hc
  have e1 : cells = zwm M := by omega
  have e2 : slots = zws M := by omega
  subst e1; subst e2
  have hlk := hA.2.2.2.2.2.2.1
  have hw0 : w0.1 = w0n := hA.2.2.2.2.2.2.2.2.2.2.1
  exact W.aret (v := .ref (loc x)) hA.1 hA.2.1 (hA.2.2.1.trans hr) (Or.inl ⟨n, rfl⟩) (Or.inr ⟨_, rfl⟩) (fun t ht hW => ⟨⟨some (.ref x), w, loc, rfl, hq, by omega, by omega, by rw [hw0]; exact h1, by rw [ht]; exact h2, h3⟩, h4.F ht⟩) h4.2.2 hd
/-- room that isn't used -/
theorem Go.give {rc' rs' : Nat} (h1 : rc' ≤ rc) (h2 : rs' ≤ rs) (g : Go M d w0n pc lv st w rc' rs' Q) : Go M d w0n pc lv st w rc rs Q := by
  intro p l e s m args below meth c dC dI dA loc0 w0 H locs cells slots loc ls hA hH
  obtain ⟨g1, g2, g3, g4, g5, g6, g7, g8, g9, g10⟩ := hH
  refine W.widen (k := cells + (rc - rc')) (n := slots + (rs - rs')) (by omega) (by omega) ?_
  exact g _ _ _ _ _ _ _ _ _ _ _ _ _ _ _ _ _ _ _ _ hA ⟨g1, g2, g3, g4, g5, g6, by omega, by omega, g9, by omega⟩
/-- locals that aren't used -/
theorem Go.less {lv' : List (Option Value)} (hl : lv'.length = lv.length) (hs : ∀ (i : Nat) (v : Value), lv'[i]? = some (some v) → lv[i]? = some (some v)) (g : Go M d w0n pc lv' st w rc rs Q) : Go M d w0n pc lv st w rc rs Q := by
  intro p l e s m args below meth c dC dI dA loc0 w0 H locs cells slots loc ls hA hH
  obtain ⟨g1, g2, g3, g4, g5, g6, g7, g8, g9, g10⟩ := hH
  exact g _ _ _ _ _ _ _ _ _ _ _ _ _ _ _ _ _ _ _ _ hA ⟨g1, g2, g3, g4, g5.less hl hs, hl.trans g6, g7, g8, g9, g10⟩
theorem Go.mono {Q2 : Option Value → zWd → Prop} (g : Go M d w0n pc lv st w rc rs Q) (hq : ∀ r w', Q r w' → Q2 r w') : Go M d w0n pc lv st w rc rs Q2 := by
  intro p l e s m args below meth c dC dI dA loc0 w0 H locs cells slots loc ls hA hH
  intro T hT X
  obtain ⟨t, a1, o, b1, b2, ⟨⟨r, w', loc', e1, e2, e3⟩, e4⟩, b4⟩ := g _ _ _ _ _ _ _ _ _ _ _ _ _ _ _ _ _ _ _ _ hA hH T hT X
  exact ⟨t, a1, o, b1, b2, ⟨⟨r, w', loc', e1, hq r w' e2, e3⟩, e4⟩, b4⟩
end ZI
