/-! what doesn't change: statics, String constants, nest links -/
def zB : Nat := 1000000
def zS : Nat := 2000000
def zV : Nat := 3000000
def zStC : Nat → String × String := fun j => match j with
  | 0 => ("CrewPairer", "RULE_LEAST")
  | 1 => ("CrewPairer", "RULE_MOST")
  | 2 => ("CrewPairer", "RULE_FIRST")
  | 3 => ("CrewPairer", "NUMBERS")
  | 4 => ("CrewPairerModel", "LEAST")
  | 5 => ("CrewPairerModel", "MOST")
  | _ => ("CrewPairerModel", "FIRST")
def zStL : Nat → List Int32 := fun j => match j with
  | 0 => [10, 300, 300, 120, 1, 120, 0, 0]
  | 1 => [120, 900, 960, 720, 8, 1200, 99, 9999]
  | 2 => [30, 600, 720, 480, 4, 600, 10, 500]
  | 3 => [4, 1, 2, 2, 2, 2, 1, 2, 0, 0]
  | 4 => [10, 300, 300, 120, 1, 120, 0, 0]
  | 5 => [120, 900, 960, 720, 8, 1200, 99, 9999]
  | _ => [30, 600, 720, 480, 4, 600, 10, 500]
/-- the String constants: class, entry, text, which of the twelve -/
def zStr : List (String × Nat × String × Nat) := [("CrewPairer$Commands", 59, "leg", 0), ("CrewPairer$Commands", 61, "crew", 1), ("CrewPairer$Commands", 63, "fly", 2), ("CrewPairer$Commands", 65, "ride", 3), ("CrewPairer$Commands", 67, "drop", 4), ("CrewPairer$Commands", 69, "late", 5), ("CrewPairer$Commands", 71, "cancel", 6), ("CrewPairer$Commands", 73, "rule", 7), ("CrewPairer$Commands", 75, "pair", 8), ("CrewPairer$Commands", 77, "repair", 9), ("CrewPairer$Report", 57, " fly;", 10), ("CrewPairer$Report", 59, " ride;", 11),
  ("CrewPairerModel", 295, "leg", 0), ("CrewPairerModel", 297, "crew", 1), ("CrewPairerModel", 299, "fly", 2), ("CrewPairerModel", 301, "ride", 3), ("CrewPairerModel", 303, "drop", 4), ("CrewPairerModel", 305, "late", 5), ("CrewPairerModel", 307, "cancel", 6), ("CrewPairerModel", 309, "rule", 7), ("CrewPairerModel", 311, "pair", 8), ("CrewPairerModel", 313, "repair", 9), ("CrewPairerModel", 274, " fly;", 10), ("CrewPairerModel", 276, " ride;", 11)]
def zByt : List (List Int32) := [[108, 101, 103], [99, 114, 101, 119], [102, 108, 121], [114, 105, 100, 101], [100, 114, 111, 112], [108, 97, 116, 101], [99, 97, 110, 99, 101, 108], [114, 117, 108, 101], [112, 97, 105, 114], [114, 101, 112, 97, 105, 114], [32, 102, 108, 121, 59], [32, 114, 105, 100, 101, 59]]
def zLen : List Nat := [3, 4, 3, 4, 4, 4, 6, 4, 4, 6, 5, 6]
/-- links to nest mates -/
def zNwF (U : State) : Prop := va_Nw (.fieldLinkNest "CrewPairer$Commands" 44 "CrewPairer" "NUMBERS" "[I" "CrewPairer") U ∧ va_Nw (.fieldLinkNest "CrewPairer$Plan" 47 "CrewPairer" "RULE_FIRST" "[I" "CrewPairer") U
def zNwM (U : State) : Prop := va_Nw (.methodLinkNest "CrewPairer" 44 yX2_init "CrewPairer") U ∧ va_Nw (.methodLinkNest "CrewPairer" 51 yX4_init "CrewPairer") U ∧ va_Nw (.methodLinkNest "CrewPairer" 67 yX5_init "CrewPairer") U ∧ va_Nw (.methodLinkNest "CrewPairer" 74 yX0_init "CrewPairer") U
/-- arrays over int[] can be made -/
def zAOA (U : State) : Prop := (Cond.arrayOver (.array .int)).before #[] U = true
theorem zAOA.moved {u U : State} (hvm : u.vm.Alike U.vm) (h : zAOA u) : zAOA U := by
  obtain ⟨comp, c, k, h1, h2, h3, h4, h5⟩ := arrayOverA_spec h
  obtain ⟨k', hk', he⟩ := hvm.2.2 _ _ h3
  have hi : (U.vm.classes.findIdx? fun (x : Class) => match x.kind with | .array component _ => component == comp | _ => false) = some c := by
    have e1 := va_idx_bare U.vm comp
    have e2 := va_idx_bare u.vm comp
    have e3 : u.vm.bare = U.vm.bare := by first | exact hvm.bare_eq | exact hvm.bare_eq.symm
    rw [e3] at e2
    exact e1.symm.trans (e2.trans h2)
  have hkind : k'.kind = .array comp (.array .int) := by rw [he]; exact h4
  have f1 : U.vm.findClass (FieldType.array .int).toString = some comp := by rw [hvm.findClass]; exact h1
  have f2 : U.vm.findClass ("[" ++ (FieldType.array .int).toString) = some c := by rw [hvm.findClass]; exact h5
  unfold zAOA Cond.before Cond.holds
  simp only [Cond.value]
  rw [f1, Option.bind_some]
  refine (congrArg (fun o : Option Nat => (o.bind (fun c => (U.vm.classes[c]?).map fun (k : Class) => match k.kind with | .array _ ty => decide (ty = FieldType.array .int) && decide (U.vm.findClass ("[" ++ (FieldType.array .int).toString) = some c) | _ => false) == some true)) hi).trans ?_
  simp [hk', hkind, f2]
def zFm : Nat := 4000000
/-- statics of the JDK's that String reads -/
def zSS (loc : Nat → Nat) (A : Nat → Prop) (U : State) (H : Heap) : Prop := va_Z "java/lang/String" "COMPACT_STRINGS" "Z" (.int 1) A U H ∧ (va_Z "jdk/internal/util/Preconditions" "SIOOBE_FORMATTER" "Ljava/util/function/BiFunction;" (.ref (loc zFm)) A U H ∨ va_Z "jdk/internal/util/Preconditions" "SIOOBE_FORMATTER" "Ljava/util/function/BiFunction;" .null A U H)
theorem zSS.moved {loc : Nat → Nat} {A : Nat → Prop} {u U : State} {H : Heap} (hvm : u.vm.Alike U.vm) (h : zSS loc A u H) : zSS loc A U H :=
  ⟨va_Z.moved hvm h.1, h.2.imp (va_Z.moved hvm) (va_Z.moved hvm)⟩
theorem zSS.kept {loc : Nat → Nat} {A : Nat → Prop} {U : State} {H H1 : Heap} (h : zSS loc A U H) (hq : ∀ a : Nat, a < H.size → ¬ A a → H1[a]? = H[a]?) : zSS loc A U H1 :=
  ⟨h.1.kept hq, h.2.imp (fun h => h.kept hq) (fun h => h.kept hq)⟩
theorem zSS.narrow {loc : Nat → Nat} {A B : Nat → Prop} {U : State} {H : Heap} (h : zSS loc A U H) (hAB : ∀ q, B q → A q) : zSS loc B U H :=
  ⟨h.1.narrow hAB, h.2.imp (fun h => h.narrow hAB) (fun h => h.narrow hAB)⟩
def zEnv (loc : Nat → Nat) (A : Nat → Prop) (U : State) (H : Heap) : Prop :=
  (∀ j, j < 7 → va_Z (zStC j).1 (zStC j).2 "[I" (.ref (loc (zB + j))) A U H ∧ va_T .int (loc (zB + j)) (zStL j).length (fun i => .int ((zStL j).getD i 0)) A U H) ∧
  (∀ q ∈ zStr, vk_R q.1 q.2.1 q.2.2.1 (loc (zS + q.2.2.2)) U) ∧ (vk_S 12 zLen zByt (fun i => loc (zS + i)) (fun i => loc (zV + i)) A U H ∧ zSS loc A U H) ∧
  zNwF U ∧ zNwM U ∧ va_AO "CrewPairer$Plan" U ∧ va_AO "java/lang/String" U ∧ zAOA U ∧ (∃ cy : ClassId, U.vm.findClass (FieldType.array .int).toString = some cy)
theorem zEnv.warm {loc : Nat → Nat} {A : Nat → Prop} {s U : State} {H : Heap} (hW : s.WarmedH U.vm) (h : zEnv loc A s H) : zEnv loc A U H := by
  obtain ⟨h1, h2, h3, ⟨f1, f2⟩, ⟨m1, m2, m3, m4⟩, h6, h7, h8, cy, h9⟩ := h
  refine ⟨fun j hj => ⟨va_Z.moved hW.alike (h1 j hj).1, va_T.moved hW.alike (h1 j hj).2⟩, fun q hq => vk_R.warm hW (h2 q hq), ⟨vk_S.moved hW.alike h3.1, h3.2.moved hW.alike⟩, ⟨va_Nw.warmF hW f1, va_Nw.warmF hW f2⟩, ⟨va_Nw.warmM hW m1, va_Nw.warmM hW m2, va_Nw.warmM hW m3, va_Nw.warmM hW m4⟩, va_AO.moved hW.alike h6, va_AO.moved hW.alike h7, zAOA.moved hW.alike h8, cy, ?_⟩
  rw [hW.alike.findClass]
  exact h9
theorem zEnv.calling {loc : Nat → Nat} {A : Nat → Prop} {U : State} {H : Heap} {g : JFrame} {mk : MethodId} {a : Array Value} (h : zEnv loc A U H) : zEnv loc A (U.calling g mk a) H := by
  obtain ⟨h1, h2, h3, ⟨f1, f2⟩, ⟨m1, m2, m3, m4⟩, h6, h7, h8, cy, h9⟩ := h
  have e : (U.calling g mk a).vm = U.vm := rfl
  have al : U.vm.Alike (U.calling g mk a).vm := Vm.Alike.refl U.vm
  exact ⟨fun j hj => ⟨va_Z.moved al (h1 j hj).1, va_T.moved al (h1 j hj).2⟩, fun q hq => vk_R.same e (h2 q hq), ⟨vk_S.moved al h3.1, h3.2.moved al⟩, ⟨va_Nw.same rfl e.symm f1, va_Nw.same rfl e.symm f2⟩, ⟨va_Nw.same rfl e.symm m1, va_Nw.same rfl e.symm m2, va_Nw.same rfl e.symm m3, va_Nw.same rfl e.symm m4⟩, va_AO.moved al h6, va_AO.moved al h7, zAOA.moved al h8, cy, h9⟩
theorem zEnv.kept {loc : Nat → Nat} {A : Nat → Prop} {U : State} {H H1 : Heap} (h : zEnv loc A U H) (hq : ∀ a : Nat, a < H.size → ¬ A a → H1[a]? = H[a]?) : zEnv loc A U H1 := by
  obtain ⟨h1, h2, h3, h4⟩ := h
  exact ⟨fun j hj => ⟨(h1 j hj).1.kept hq, (h1 j hj).2.kept hq⟩, h2, ⟨h3.1.kept hq, h3.2.kept hq⟩, h4⟩
theorem zEnv.narrow {loc : Nat → Nat} {A B : Nat → Prop} {U : State} {H : Heap} (h : zEnv loc A U H) (hAB : ∀ q, B q → A q) : zEnv loc B U H := by
  obtain ⟨h1, h2, h3, h4⟩ := h
  exact ⟨fun j hj => ⟨(h1 j hj).1.narrow hAB, (h1 j hj).2.narrow hAB⟩, h2, ⟨h3.1.narrow hAB, h3.2.narrow hAB⟩, h4⟩
theorem zEnv.loc {loc loc' : Nat → Nat} {A : Nat → Prop} {U : State} {H : Heap} (h : zEnv loc A U H) (he : ∀ i, zB ≤ i → loc' i = loc i) : zEnv loc' A U H := by
  obtain ⟨h1, h2, h3, h4⟩ := h
  have e1 : ∀ j, loc' (zB + j) = loc (zB + j) := fun j => he _ (by omega)
  have e2 : ∀ j, loc' (zS + j) = loc (zS + j) := fun j => he _ (by simp [zB, zS]; omega)
  have e3 : ∀ j, loc' (zV + j) = loc (zV + j) := fun j => he _ (by simp [zB, zV]; omega)
  refine ⟨fun j hj => by rw [e1]; exact h1 j hj, fun q hq => by rw [e2]; exact h2 q hq, ?_, h4⟩
  have e2' : (fun i => loc' (zS + i)) = (fun i => loc (zS + i)) := funext e2
  have e3' : (fun i => loc' (zV + i)) = (fun i => loc (zV + i)) := funext e3
  have e4 : loc' zFm = loc zFm := he _ (by simp [zB, zFm])
  unfold zSS
  rw [e2', e3', e4]
  exact h3
/-! contracts -/
def zRm (d mc ms : Nat) : Room := { frames := d, cells := mc, slots := ms, locals := 60 * d }
def zwm (M : zMth) : Nat := M.2.2.2.2.2.1
def zws (M : zMth) : Nat := M.2.2.2.2.2.2
def zA (dA : Nat → ClassId) (loc : Nat → Nat) (w : zWd) (sz : Nat) : Nat → Prop := va_A (zw dA loc w) sz
def zPre (dC : Nat → ClassId) (dI : Nat → Nat → Nat) (dA : Nat → ClassId) (loc : Nat → Nat) (w : zWd) (sz : Nat) : State → Prop := fun U =>
  U.heap.size = sz ∧ va_P (dC, dI) vwCl (zw dA loc w) U.heap ∧ va_K (dC, dI) vwCl (zty dA) U ∧ va_D (fun _ => True) (zw dA loc w) ∧ zEnv loc (zA dA loc w sz) U U.heap
def zQ (dC : Nat → ClassId) (dI : Nat → Nat → Nat) (dA : Nat → ClassId) (loc0 : Nat → Nat) (w0 : zWd) (mc sz : Nat) (Q : Option Value → zWd → Prop) : Array Value → State → Outcome → State → Prop := fun _ st oc t =>
  (∃ (r : Option Value) (w' : zWd) (loc' : Nat → Nat), oc = .returned (r.map (zv loc')) ∧ Q r w' ∧ w0.1 ≤ w'.1 ∧ w'.1 ≤ w0.1 + mc ∧ (∀ i, (i < w0.1 ∨ w0.1 + mc ≤ i) → loc' i = loc0 i) ∧ va_P (dC, dI) vwCl (zw dA loc' w') t.heap ∧ va_D (zA dA loc0 w0 sz) (zw dA loc' w')) ∧ va_F (zA dA loc0 w0 sz) st t
def MOk (d : Nat) (M : zMth) (avs : List Value) (w : zWd) (Q : Option Value → zWd → Prop) : Prop :=
  w.1 + zwm M ≤ zB → ∀ (l : Launch) (dC : Nat → ClassId) (dI : Nat → Nat → Nat) (dA : Nat → ClassId) (loc : Nat → Nat) (sz : Nat),
    Met l M.1 (zWd0 M :: wsL_law) (zRm d (zwm M) (zws M)) (va_Pc (avs.map (zv loc)) (zPre dC dI dA loc w sz)) (zQ dC dI dA loc w (zwm M) sz Q) (zwm M) (zws M) (zA dA loc w sz)
theorem zPre_blind {dC : Nat → ClassId} {dI : Nat → Nat → Nat} {dA : Nat → ClassId} {loc : Nat → Nat} {w : zWd} {sz : Nat} {av : List Value} : FrameBlind (va_Pc av (zPre dC dI dA loc w sz)) := by
  intro a U g mk q
  obtain ⟨q0, q1, qP, qK, qD, qE⟩ := q
  exact ⟨q0, q1, qP, va_K.moved (u := U) (U := U.calling g mk a) (Vm.Alike.refl U.vm) qK, qD, qE.calling⟩
/-- what holds through a method -/
def zAct (M : zMth) (w0n : Nat) (p : Program) (s : State) (m : MethodId) (args : Array Value) (meth : Method) (c : Code) (dC : Nat → ClassId) (dI : Nat → Nat → Nat) (dA : Nat → ClassId) (loc0 : Nat → Nat) (w0 : zWd) : Prop :=
  p.tables.exec = Jvm.exec ∧ c.code = M.2.1 ∧ meth.sig.returnType = M.2.2.2.1 ∧ c.maxLocals = M.2.2.1 ∧ s.vm.findClass M.1.cls = some m.cls ∧ (∀ w ∈ zWd0 M :: wsL_law, w.before args s = true) ∧ meth.locks = false ∧
  va_K (dC, dI) vwCl (zty dA) s ∧ zEnv loc0 (zA dA loc0 w0 s.heap.size) s s.heap ∧ meth.name = M.1.name ∧ w0.1 = w0n ∧ w0n + zwm M ≤ zB ∧ M.1.cls = zRn M.2.2.2.2.1
/-- what holds at a place of it -/
def zHere (M : zMth) (w0n : Nat) (s : State) (dC : Nat → ClassId) (dI : Nat → Nat → Nat) (dA : Nat → ClassId) (loc0 : Nat → Nat) (w0 : zWd) (H : Heap) (locs : List Loc) (cells slots : Nat) (loc : Nat → Nat) (ls : Array Slot) (lv : List (Option Value)) (w : zWd) (rc rs : Nat) : Prop :=
  (∀ i, (i < w0n ∨ w0n + zwm M ≤ i) → loc i = loc0 i) ∧ va_P (dC, dI) vwCl (zw dA loc w) H ∧ va_D (zA dA loc0 w0 s.heap.size) (zw dA loc w) ∧ va_S (zA dA loc0 w0 s.heap.size) s.heap H locs ∧ zlv loc ls lv ∧ lv.length = M.2.2.1 ∧
  cells + rc = zwm M ∧ slots + rs = zws M ∧ w0n ≤ w.1 ∧ w.1 + rc ≤ w0n + zwm M
def Go (M : zMth) (d w0n pc : Nat) (lv : List (Option Value)) (st : List Value) (w : zWd) (rc rs : Nat) (Q : Option Value → zWd → Prop) : Prop :=
  ∀ (p : Program) (l : Launch) (e : Env) (s : State) (m : MethodId) (args : Array Value) (below : List Frame) (meth : Method) (c : Code) (dC : Nat → ClassId) (dI : Nat → Nat → Nat) (dA : Nat → ClassId) (loc0 : Nat → Nat) (w0 : zWd) (H : Heap) (locs : List Loc) (cells slots : Nat) (loc : Nat → Nat) (ls : Array Slot),
    zAct M w0n p s m args meth c dC dI dA loc0 w0 → zHere M w0n s dC dI dA loc0 w0 H locs cells slots loc ls lv w rc rs →
    W p l e (zRm d (zwm M) (zws M)) s m args below meth c H locs cells slots (MQ below (zQ dC dI dA loc0 w0 (zwm M) s.heap.size Q) args s (zwm M) (zws M) (zA dA loc0 w0 s.heap.size)) (F0 m pc ls (st.map (zv loc)))
theorem MOk.mono {d : Nat} {M : zMth} {avs : List Value} {w : zWd} {Q Q2 : Option Value → zWd → Prop} (h : MOk d M avs w Q) (hq : ∀ r w', Q r w' → Q2 r w') : MOk d M avs w Q2 := by
  intro hz l dC dI dA loc sz
  have h1 := h hz l dC dI dA loc sz
  have key : ∀ a st o t, zQ dC dI dA loc w (zwm M) sz Q a st o t → zQ dC dI dA loc w (zwm M) sz Q2 a st o t := by
    intro a st o t ⟨⟨r, w', loc', e1, e2, e3⟩, e4⟩
    exact ⟨⟨r, w', loc', e1, hq r w' e2, e3⟩, e4⟩
  have e : ∀ a st o t, (fun a st o t => zQ dC dI dA loc w (zwm M) sz Q a st o t ∧ ∃ L, FrameEnd st o t L (zwm M) (zws M) ∧ ∀ q ∈ L, zA dA loc w sz q.base) a st o t → (fun a st o t => zQ dC dI dA loc w (zwm M) sz Q2 a st o t ∧ ∃ L, FrameEnd st o t L (zwm M) (zws M) ∧ ∀ q ∈ L, zA dA loc w sz q.base) a st o t := fun a st o t h => ⟨key a st o t h.1, h.2⟩
  exact fun p e2 ha hc hk s m args below hf happ hp hK => by
    obtain ⟨t, o, b1, b2, b3, b4⟩ := h1 p e2 ha hc hk s m args below hf happ hp hK
    exact ⟨t, o, b1, b2, b3, e _ _ _ _ b4⟩
