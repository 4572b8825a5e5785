/-! An abstract machine over numbered cells (places): what stands at a place, how values name places, and a judgement Go that the
    kit's rows prove once for each instruction. Everything later speaks of places, never of addresses. -/
abbrev zCE : Type := (Nat × vp_A) ⊕ (Nat × List Value)
abbrev zWd : Type := Nat × (Nat → zCE)
def zv (loc : Nat → Nat) (v : Value) : Value := match v with
  | .ref p => .ref (loc p)
  | v => v
def za (loc : Nat → Nat) (a : vp_A) : vp_A := match a with
  | (n, .inr (.inr (.inr (.inr g)))) => (n, .inr (.inr (.inr (.inr (fun i => (g i).map loc)))))
  | x => x
def zc (dA : Nat → ClassId) (loc : Nat → Nat) (x : zCE) : va_E := match x with
  | .inl (t, a) => .inl (dA t, za loc a)
  | .inr (ci, fs) => .inr (ci, fs.map (zv loc))
def zw (dA : Nat → ClassId) (loc : Nat → Nat) (w : zWd) : va_W := (List.range w.1).map (fun i => (loc i, zc dA loc (w.2 i)))
def zup (w : zWd) (p : Nat) (x : zCE) : zWd := (w.1, fun i => if i = p then x else w.2 i)
def zpush (w : zWd) (x : zCE) : zWd := (w.1 + 1, fun i => if i = w.1 then x else w.2 i)
theorem zw_len {dA : Nat → ClassId} {loc : Nat → Nat} {w : zWd} : (zw dA loc w).length = w.1 := by simp [zw]
theorem zw_get {dA : Nat → ClassId} {loc : Nat → Nat} {w : zWd} {p : Nat} (h : p < w.1) : (zw dA loc w)[p]? = some (loc p, zc dA loc (w.2 p)) := by
  simp [zw, h]
theorem zw_set {dA : Nat → ClassId} {loc : Nat → Nat} {w : zWd} {p : Nat} {x : zCE} (h : p < w.1) : (zw dA loc w).set p (loc p, zc dA loc x) = zw dA loc (zup w p x) := by
  apply List.ext_getElem?
  intro i
  by_cases hi : i < w.1
  · rw [zw_get (w := zup w p x) hi]
    by_cases hp : i = p
    · subst hp
      rw [List.getElem?_set_self (by rw [zw_len]; exact h)]
      simp [zup]
    · rw [List.getElem?_set_ne (fun q => hp q.symm), zw_get hi]
      simp [zup, hp]
  · rw [List.getElem?_eq_none (by rw [List.length_set, zw_len]; omega), List.getElem?_eq_none (by rw [zw_len]; show w.1 ≤ i; omega)]
/-- the place n is named nowhere in the cell -/
def zfrC (n : Nat) (x : zCE) : Prop := match x with
  | .inl (_, (_, .inr (.inr (.inr (.inr g))))) => ∀ i, g i ≠ some n
  | .inl _ => True
  | .inr (_, fs) => ∀ v ∈ fs, v ≠ .ref n
def zext (loc : Nat → Nat) (n q : Nat) : Nat → Nat := fun i => if i = n then q else loc i
theorem zv_ext {loc : Nat → Nat} {n q : Nat} {v : Value} (h : v ≠ .ref n) : zv (zext loc n q) v = zv loc v := by
  cases v <;> try rfl
  rename_i p
  have hp : p ≠ n := fun e => h (by rw [e])
  simp [zv, zext, hp]
theorem zc_ext {dA : Nat → ClassId} {loc : Nat → Nat} {n q : Nat} {x : zCE} (h : zfrC n x) : zc dA (zext loc n q) x = zc dA loc x := by
  rcases x with ⟨t, m, f | f | f | f | g⟩ | ⟨ci, fs⟩
  · rfl
  · rfl
  · rfl
  · rfl
  · simp only [zc, za]
    have : (fun i => Option.map (zext loc n q) (g i)) = (fun i => Option.map loc (g i)) := by
      funext i
      cases hg : g i with
      | none => rfl
      | some p =>
        have hp : p ≠ n := fun e => h i (by rw [hg, e])
        simp [zext, hp]
    rw [this]
  · simp only [zc]
    have : fs.map (zv (zext loc n q)) = fs.map (zv loc) := List.map_congr_left fun v hv => zv_ext (h v hv)
    rw [this]
theorem zw_push {dA : Nat → ClassId} {loc : Nat → Nat} {w : zWd} {x : zCE} {q : Nat} (hw : ∀ i, i < w.1 → zfrC w.1 (w.2 i)) (hx : zfrC w.1 x) : zw dA loc w ++ [(q, zc dA loc x)] = zw dA (zext loc w.1 q) (zpush w x) := by
  apply List.ext_getElem?
  intro i
  by_cases hi : i < w.1
  · rw [List.getElem?_append_left (by rw [zw_len]; exact hi), zw_get hi, zw_get (w := zpush w x) (show i < w.1 + 1 by omega)]
    have hn : i ≠ w.1 := by omega
    simp only [zpush, zext, hn, if_false]
    rw [← zc_ext (dA := dA) (loc := loc) (q := q) (hw i hi)]
  · by_cases hn : i = w.1
    · subst hn
      rw [List.getElem?_append_right (by rw [zw_len]; omega), zw_get (w := zpush w x) (show w.1 < w.1 + 1 by omega), zw_len]
      simp only [Nat.sub_self, zpush, if_true]
      rw [zc_ext hx]
      simp [zext]
    · rw [List.getElem?_eq_none (by rw [List.length_append, zw_len]; simp; omega), List.getElem?_eq_none (by rw [zw_len]; show w.1 + 1 ≤ i; omega)]
theorem zw_trim {dA : Nat → ClassId} {loc : Nat → Nat} {w : zWd} {n : Nat} (h : n ≤ w.1) : zw dA loc (n, w.2) = (List.range n).filterMap (fun i => (zw dA loc w)[i]?) := by
  apply List.ext_getElem?
  intro i
  have e : (List.range n).filterMap (fun i => (zw dA loc w)[i]?) = (List.range n).map (fun i => (loc i, zc dA loc (w.2 i))) := by
    have key : ∀ l : List Nat, (∀ j ∈ l, j < w.1) → l.filterMap (fun i => (zw dA loc w)[i]?) = l.map (fun i => (loc i, zc dA loc (w.2 i))) := by
      intro l
      induction l with
      | nil => intro _; rfl
      | cons a l ih =>
        intro hl
        rw [List.filterMap_cons, zw_get (hl a List.mem_cons_self), List.map_cons, ih (fun j hj => hl j (List.mem_cons_of_mem _ hj))]
    exact key _ (fun j hj => by have := List.mem_range.mp hj; omega)
  rw [e]
  rfl
theorem zw_trim_nd (n : Nat) : va_nd (List.range n) = true := by
  have key : ∀ l : List Nat, l.Nodup → va_nd l = true := by
    intro l
    induction l with
    | nil => intro _; rfl
    | cons a l ih =>
      intro h
      rw [List.nodup_cons] at h
      simp [va_nd, h.1, ih h.2]
  exact key _ List.nodup_range
/-- the types of the arrays, by their tags -/
def zTy : Nat → FieldType := fun t => match t with
  | 0 => .int
  | 1 => .boolean
  | 2 => .char
  | 3 => .array .int
  | 4 => .object "CrewPairer$Plan"
  | _ => .object "java/lang/String"
def zty (dA : Nat → ClassId) : List (ClassId × FieldType) := (List.range 6).map (fun t => (dA t, zTy t))
theorem zty_at {dA : Nat → ClassId} {t : Nat} (h : t < 6) : (zty dA)[t]? = some (dA t, zTy t) := by simp [zty, h]
/-- the locals -/
def zlv (loc : Nat → Nat) (ls : Array Slot) (lv : List (Option Value)) : Prop := ls.size = lv.length ∧ lv_wf ls ∧ ∀ (i : Nat) (v : Value), lv[i]? = some (some v) → ls[i]? = some (.val (zv loc v)) ∧ v.category = 1
def zL (loc : Nat → Nat) (lv : List (Option Value)) : List (Nat × Value) := (List.range lv.length).filterMap (fun i => match lv[i]? with | some (some v) => some (i, zv loc v) | _ => none)
theorem zv_cat {loc : Nat → Nat} {v : Value} : (zv loc v).category = v.category := by cases v <;> rfl
theorem zlv.has {loc : Nat → Nat} {ls : Array Slot} {lv : List (Option Value)} (h : zlv loc ls lv) : lv_has ls lv.length (zL loc lv) := by
  refine ⟨h.1, h.2.1, fun q hq => ?_⟩
  obtain ⟨i, -, hi⟩ := List.mem_filterMap.mp hq
  split at hi
  · rename_i v hv
    cases hi
    exact (h.2.2 i v hv).1
  · cases hi
theorem zL_mem {loc : Nat → Nat} {lv : List (Option Value)} {i : Nat} {v : Value} (h : lv[i]? = some (some v)) : (i, zv loc v) ∈ zL loc lv := by
  refine List.mem_filterMap.mpr ⟨i, List.mem_range.mpr (List.getElem?_eq_some_iff.mp h).1, ?_⟩
  rw [h]
theorem zlv.store {loc : Nat → Nat} {ls ls' : Array Slot} {lv : List (Option Value)} {i : Nat} {v : Value} (h : zlv loc ls lv) (hi : i < lv.length) (hc : v.category = 1)
    (h' : lv_has ls' lv.length ((i, zv loc v) :: (zL loc lv).filter (fun q => !(q.1 == i) && !(q.1 + 1 == i && q.2.category == 2)))) : zlv loc ls' (lv.set i (some v)) := by
  refine ⟨by rw [List.length_set]; exact h'.1, h'.2.1, fun j u hj => ?_⟩
  by_cases e : j = i
  · subst e
    rw [List.getElem?_set_self hi] at hj
    cases hj
    exact ⟨h'.2.2 (j, zv loc v) List.mem_cons_self, hc⟩
  · rw [List.getElem?_set_ne (fun q => e q.symm)] at hj
    refine ⟨h'.2.2 (j, zv loc u) (List.mem_cons_of_mem _ (List.mem_filter.mpr ⟨zL_mem hj, ?_⟩)), (h.2.2 j u hj).2⟩
    have c1 : (zv loc u).category = 1 := by rw [zv_cat]; exact (h.2.2 j u hj).2
    simp [e, c1]
theorem zlv.ext {loc loc' : Nat → Nat} {ls : Array Slot} {lv : List (Option Value)} (h : zlv loc ls lv) (he : ∀ v, some v ∈ lv → zv loc' v = zv loc v) : zlv loc' ls lv := by
  refine ⟨h.1, h.2.1, fun i v hv => ?_⟩
  rw [he v (List.mem_of_getElem? hv)]
  exact h.2.2 i v hv
/-- fewer locals -/
theorem zlv.less {loc : Nat → Nat} {ls : Array Slot} {lv lv' : List (Option Value)} (h : zlv loc ls lv) (hl : lv'.length = lv.length) (hs : ∀ (i : Nat) (v : Value), lv'[i]? = some (some v) → lv[i]? = some (some v)) : zlv loc ls lv' :=
  ⟨by rw [hl]; exact h.1, h.2.1, fun i v hv => h.2.2 i v (hs i v hv)⟩
