/-! an array of arrays; worlds that grow -/
section ZMU
variable {M : zMth} {d w0n pc : Nat} {lv : List (Option Value)} {st : List Value} {w : zWd} {rc rs : Nat} {Q : Option Value → zWd → Prop}
/-- the outer array and its N rows of K ints -/
def zmul (w : zWd) (N K : Nat) : zWd := (w.1 + 1 + N, fun i => if i < w.1 then w.2 i else if i = w.1 then .inl (3, N, .inr (.inr (.inr (.inr (fun j => if j < N then some (w.1 + 1 + j) else none))))) else .inl (0, K, .inl (fun _ => 0)))
/-- places at and above n aren't named -/
def zfrN (n : Nat) (x : zCE) : Prop := ∀ m, n ≤ m → zfrC m x
def zfrW (w : zWd) (lv : List (Option Value)) (st : List Value) : Prop := (∀ i, i < w.1 → zfrN w.1 (w.2 i)) ∧ (∀ q : Nat, some (Value.ref q) ∈ lv → q < w.1 ∨ zB ≤ q) ∧ ∀ q : Nat, Value.ref q ∈ st → q < w.1 ∨ zB ≤ q
theorem zfrW.zfr (h : zfrW w lv st) (hz : w.1 < zB) : zfr w lv st :=
  ⟨fun i hi => h.1 i hi _ (Nat.le_refl _), fun v hv e => by subst e; rcases h.2.1 _ hv with q | q <;> omega, fun v hv e => by subst e; rcases h.2.2 _ hv with q | q <;> omega⟩
def zex (loc : Nat → Nat) (n N : Nat) (q : Nat) (r : Nat → Nat) : Nat → Nat := fun i => if i < n then loc i else if i = n then q else if i < n + 1 + N then r (i - (n + 1)) else loc i
theorem zv_eqN {loc loc' : Nat → Nat} {v : Value} (h : ∀ q : Nat, v = .ref q → loc' q = loc q) : zv loc' v = zv loc v := by
  cases v <;> try rfl
  rename_i q
  show Value.ref _ = Value.ref _
  rw [h q rfl]
theorem zc_eqN {dA : Nat → ClassId} {loc loc' : Nat → Nat} {n N : Nat} {x : zCE} (h : zfrN n x) (hl : ∀ i, (i < n ∨ n + 1 + N ≤ i) → loc' i = loc i) : zc dA loc' x = zc dA loc x := by
  have key : ∀ q, (∀ m, n ≤ m → q ≠ m) → loc' q = loc q := fun q hq => hl q (by
    rcases Nat.lt_or_ge q n with z | z
    · exact Or.inl z
    · exact absurd rfl (hq q z))
  rcases x with ⟨t, m, f | f | f | f | g⟩ | ⟨ci, fs⟩
  · rfl
  · rfl
  · rfl
  · rfl
  · simp only [zc, za]
    have : (fun i => Option.map loc' (g i)) = (fun i => Option.map loc (g i)) := by
      funext i
      cases hg : g i with
      | none => rfl
      | some q =>
        show some _ = some _
        rw [key q (fun m hm e => h m hm i (by rw [hg, e]))]
    rw [this]
  · simp only [zc]
    have : fs.map (zv loc') = fs.map (zv loc) := List.map_congr_left fun v hv => zv_eqN (fun q e => key q (fun m hm e2 => h m hm v hv (by rw [e, e2])))
    rw [this]
theorem zw_mul {dA : Nat → ClassId} {loc : Nat → Nat} {N K q : Nat} {r : Nat → Nat} (hw : ∀ i, i < w.1 → zfrN w.1 (w.2 i)) :
    zw dA (zex loc w.1 N q r) (zmul w N K) = (zw dA loc w ++ [(q, .inl (dA 3, N, .inr (.inr (.inr (.inr (fun i => if i < N then some (r i) else none))))))]) ++ (List.range N).map (fun i => (r i, (.inl (dA 0, K, .inl (fun _ => 0)) : va_E))) := by
  have e1 : ∀ i, i < w.1 → zex loc w.1 N q r i = loc i := fun i hi => if_pos hi
  have e2 : zex loc w.1 N q r w.1 = q := by unfold zex; rw [if_neg (by omega), if_pos rfl]
  have e3 : ∀ i, i < N → zex loc w.1 N q r (w.1 + 1 + i) = r i := fun i hi => by unfold zex; rw [if_neg (by omega), if_neg (by omega), if_pos (by omega)]; congr 1; omega
  apply List.ext_getElem?
  intro i
  by_cases h1 : i < w.1
  · rw [List.getElem?_append_left (by simp [zw_len]; omega), List.getElem?_append_left (by rw [zw_len]; exact h1), zw_get h1, zw_get (w := zmul w N K) (show i < w.1 + 1 + N by omega), e1 i h1]
    have : (zmul w N K).2 i = w.2 i := if_pos h1
    rw [this, zc_eqN (N := N) (hw i h1) (fun j hj => by unfold zex; rcases hj with z | z; exact if_pos z; rw [if_neg (by omega), if_neg (by omega), if_neg (by omega)])]
  · by_cases h2 : i = w.1
    · subst h2
      rw [List.getElem?_append_left (by simp [zw_len]), List.getElem?_append_right (by rw [zw_len]; omega), zw_len, Nat.sub_self, zw_get (w := zmul w N K) (show w.1 < w.1 + 1 + N by omega), e2]
      have : (zmul w N K).2 w.1 = .inl (3, N, .inr (.inr (.inr (.inr (fun j => if j < N then some (w.1 + 1 + j) else none))))) := by
        show (if w.1 < w.1 then w.2 w.1 else if w.1 = w.1 then _ else _) = _
        rw [if_neg (by omega), if_pos rfl]
      rw [this]
      simp only [zc, za, List.getElem?_cons_zero]
      refine congrArg (fun g => some (q, (.inl (dA 3, N, .inr (.inr (.inr (.inr g)))) : va_E))) (funext fun j => ?_)
      split
      · rename_i hj; show some _ = some _; rw [e3 j hj]
      · rfl
    · by_cases h3 : i < w.1 + 1 + N
      · obtain ⟨j, rfl⟩ : ∃ j, i = w.1 + 1 + j := ⟨i - (w.1 + 1), by omega⟩
        rw [List.getElem?_append_right (by simp [zw_len]), zw_get (w := zmul w N K) (show w.1 + 1 + j < w.1 + 1 + N by omega), e3 j (by omega)]
        have : (zmul w N K).2 (w.1 + 1 + j) = .inl (0, K, .inl (fun _ => 0)) := by
          show (if w.1 + 1 + j < w.1 then _ else if w.1 + 1 + j = w.1 then _ else _) = _
          rw [if_neg (by omega), if_neg (by omega)]
        rw [this, show w.1 + 1 + j - (zw dA loc w ++ [(q, (.inl (dA 3, N, .inr (.inr (.inr (.inr (fun i => if i < N then some (r i) else none))))) : va_E))]).length = j by simp [zw_len], List.getElem?_map, List.getElem?_range (by omega)]
        rfl
      · rw [List.getElem?_eq_none (by rw [zw_len]; show w.1 + 1 + N ≤ i; omega), List.getElem?_eq_none (by simp [zw_len]; omega)]
theorem zmu_str : "[" ++ (FieldType.array .int).toString = "[[I" := by decide +kernel
theorem zmu_cl : Cond.classLink (zRn 3) 39 "[[I" ∈ wsL_law := zr_3 _ (List.mem_of_getElem? (i := 13) rfl)
theorem zmu_ai : Cond.arrayClass .int ∈ wsL_law := zr_3 _ (List.mem_of_getElem? (i := 3) rfl)
theorem Go.mna {N K : Nat} {n k : Int32} (hd : decode M.2.1 pc = .ok (.multianewarray 39 2, 4)) (hM : M.2.2.2.2.1 = 3) (hn : ¬ n < 0) (hk : ¬ k < 0) (hN : n.toNatClampNeg = N) (hK : k.toNatClampNeg = K) (h1 : N ≤ 1000) (h2 : K ≤ 1000) (hrc : 1 + N ≤ rc) (hrs : N + N * K ≤ rs) (hf : zfrW w lv st)
    (g : Go M d w0n (pc + 4) lv (.ref w.1 :: st) (zmul w N K) (rc - (1 + N)) (rs - (N + N * K)) Q) : Go M d w0n pc lv (.int k :: .int n :: st) w rc rs Q := by
  intro p' l e s m args below meth c dC dI dA loc0 w0 H locs cells slots loc ls hA hH
  obtain ⟨g1, g2, g3, g4, g5, g6, g7, g8, g9, g10⟩ := id hH
  have hwz := hA.2.2.2.2.2.2.2.2.2.2.2.1
  have hown := Go.zown hA
  rw [hM] at hown
  have henv := Go.zenv hA
  have hKA := hA.2.2.2.2.2.2.2.1
  obtain ⟨cy, hcy⟩ := henv.2.2.2.2.2.2.2.2
  have hcy0 : cy = dA 0 := by
    have h3 := va_RA_nm (hKA.2 0 _ (zty_at (by decide))).2
    dsimp only at h3
    have h4 : (FieldType.array .int).toString = "[" ++ (zTy 0).toString := by decide +kernel
    rw [h4] at hcy
    exact Option.some.inj (hcy.symm.trans h3)
  subst hcy0
  have eX : zw dA loc w ++ va_pl [] (fun _ => (.inl (dA 0, K, .inl (fun _ => 0)) : va_E)) = zw dA loc w := by simp [va_pl]
  refine z_mna (X := zw dA loc w) (L := []) (f := fun _ => (.inl (dA 0, K, .inl (fun _ => 0)) : va_E)) (ty := .int) (z := (K, .inl (fun _ => 0))) (D := (dC, dI)) (R := zRm d (zwm M) (zws M)) hA.1 hA.2.1 hown (by rw [zmu_str]; exact Go.zts hA zmu_cl) (zAOA.use henv.2.2.2.2.2.2.2.1) (Go.zts hA zmu_ai) hcy hKA (by rw [eX]; exact g2) (by rw [eX]; exact g3) g4 zA_ge hn hk hN hK (by omega) (by show K * 4 ≤ _; omega) (by omega) rfl rfl (by show cells + (1 + N) ≤ zwm M; omega) (by show slots + (N + N * K) ≤ zws M; omega) (fun c => ?_) hd (fun q r cA H1 q1 q2 q3 q4 q5 q6 => ?_)
  · show ({ cls := c, slots := Array.replicate K (.int 0), vm := .none } : Cell) = _
    rw [arrV_new]; rfl
  · have hcA := zdA_eq (t := 3) (by decide) rfl hKA q3
    subst hcA
    have ep : va_pl ([] ++ (List.range N).map r) (vr_up (fun _ => (.inl (dA 0, K, .inl (fun _ => 0)) : va_E)) ((List.range N).map r) (.inl (dA 0, (K, .inl (fun _ => 0))))) = (List.range N).map (fun i => (r i, (.inl (dA 0, K, .inl (fun _ => 0)) : va_E))) := by
      unfold va_pl
      rw [List.nil_append, List.map_map]
      refine List.map_congr_left (fun i _ => ?_)
      show (r i, vr_up _ _ _ (r i)) = _
      unfold vr_up
      split <;> rfl
    rw [ep, ← zw_mul (loc := loc) hf.1] at q4 q5
    have hle : ∀ i, (i < w.1 ∨ w.1 + 1 + N ≤ i) → zex loc w.1 N q r i = loc i := fun i hi => by
      unfold zex
      rcases hi with z | z
      · exact if_pos z
      · rw [if_neg (by omega), if_neg (by omega), if_neg (by omega)]
    have hv1 : ∀ v, some v ∈ lv → zv (zex loc w.1 N q r) v = zv loc v := fun v hv => zv_eqN (fun x e => hle x (by subst e; rcases hf.2.1 _ hv with z | z <;> omega))
    have hv2 : st.map (zv (zex loc w.1 N q r)) = st.map (zv loc) := List.map_congr_left fun v hv => zv_eqN (fun x e => hle x (by subst e; rcases hf.2.2 _ hv with z | z <;> omega))
    have hH' : zHere M w0n s dC dI dA loc0 w0 H1 locs (cells + (1 + N)) (slots + (N + N * K)) (zex loc w.1 N q r) ls lv (zmul w N K) (rc - (1 + N)) (rs - (N + N * K)) :=
      ⟨fun i hi => by rw [hle i (by omega)]; exact g1 i hi, q4, q5, q6, g5.ext hv1, g6, by omega, by omega, by show w0n ≤ w.1 + 1 + N; omega, by show w.1 + 1 + N + (rc - (1 + N)) ≤ _; omega⟩
    have G := g p' l e s m args below meth c dC dI dA loc0 w0 H1 locs (cells + (1 + N)) (slots + (N + N * K)) (zex loc w.1 N q r) ls hA hH'
    have e9 : zex loc w.1 N q r w.1 = q := by unfold zex; rw [if_neg (by omega), if_pos rfl]
    rw [zmap_ref e9, hv2, ← Nat.add_assoc, ← Nat.add_assoc] at G
    exact G
end ZMU
/-- all places named are there, or constants -/
def zbC (n : Nat) (x : zCE) : Prop := match x with
  | .inl (_, (_, .inr (.inr (.inr (.inr g))))) => ∀ i q, g i = some q → q < n
  | .inl _ => True
  | .inr (_, fs) => ∀ q : Nat, Value.ref q ∈ fs → q < n
theorem zbC.mono {n m : Nat} {x : zCE} (h : zbC n x) (hm : n ≤ m) : zbC m x := by
  rcases x with ⟨t, k, f | f | f | f | g⟩ | ⟨ci, fs⟩
  · exact trivial
  · exact trivial
  · exact trivial
  · exact trivial
  · exact fun i q hq => Nat.lt_of_lt_of_le (h i q hq) hm
  · exact fun q hq => Nat.lt_of_lt_of_le (h q hq) hm
theorem zbC.fr {n : Nat} {x : zCE} (h : zbC n x) : zfrN n x := by
  intro m hm
  rcases x with ⟨t, k, f | f | f | f | g⟩ | ⟨ci, fs⟩
  · exact trivial
  · exact trivial
  · exact trivial
  · exact trivial
  · exact fun i e => by have := h i m e; omega
  · exact fun v hv e => by subst e; have := h m hv; omega
/-- a world that is being built: n0 places were there, one of them, p, is being filled; cs came after -/
def Bld (w : zWd) (W0 : Nat → zCE) (n0 p ci : Nat) (fs : List Value) (cs : List zCE) : Prop :=
  w.1 = n0 + cs.length ∧ p < n0 ∧ (∀ i, i < w.1 → zbC w.1 (w.2 i)) ∧ w.2 p = .inr (ci, fs) ∧ (∀ i, i < n0 → i ≠ p → w.2 i = W0 i) ∧ ∀ (j : Nat) (x : zCE), cs[j]? = some x → w.2 (n0 + j) = x
section ZBL
variable {w : zWd} {W0 : Nat → zCE} {n0 p ci : Nat} {fs : List Value} {cs : List zCE}
theorem Bld.start (h1 : p < w.1) (h2 : ∀ i, i < w.1 → zbC w.1 (w.2 i)) (h3 : w.2 p = .inr (ci, fs)) : Bld w w.2 w.1 p ci fs [] := ⟨rfl, h1, h2, h3, fun _ _ _ => rfl, fun j x h => by simp at h⟩
theorem Bld.push {x : zCE} (h : Bld w W0 n0 p ci fs cs) (hx : zbC (w.1 + 1) x) : Bld (zpush w x) W0 n0 p ci fs (cs ++ [x]) := by
  obtain ⟨h1, h2, h3, h4, h5, h6⟩ := h
  have o : ∀ i, i < w.1 → (zpush w x).2 i = w.2 i := fun i hi => by show (if i = w.1 then x else w.2 i) = _; rw [if_neg (by omega)]
  refine ⟨by show w.1 + 1 = _; simp; omega, h2, fun i hi => ?_, by rw [o p (by omega)]; exact h4, fun i hi hp => by rw [o i (by omega)]; exact h5 i hi hp, fun j y hj => ?_⟩
  · have hi : i < w.1 + 1 := hi
    show zbC (w.1 + 1) (if i = w.1 then x else w.2 i)
    by_cases e : i = w.1
    · rw [if_pos e]; exact hx
    · rw [if_neg e]; exact (h3 i (by omega)).mono (by omega)
  · by_cases e : j < cs.length
    · rw [List.getElem?_append_left e] at hj
      rw [o _ (by omega)]; exact h6 j y hj
    · rw [List.getElem?_append_right (by omega)] at hj
      have e2 : j = cs.length := by
        have := (List.getElem?_eq_some_iff.mp hj).1
        simp at this
        omega
      subst e2
      rw [Nat.sub_self] at hj
      have e3 : x = y := by simpa using hj
      subst e3
      show (if n0 + cs.length = w.1 then x else _) = x
      rw [if_pos (by omega)]
theorem Bld.set {k : Nat} {v : Value} (h : Bld w W0 n0 p ci fs cs) (hv : ∀ q : Nat, v = .ref q → q < w.1) : Bld (zup w p (.inr (ci, fs.set k v))) W0 n0 p ci (fs.set k v) cs := by
  obtain ⟨h1, h2, h3, h4, h5, h6⟩ := h
  have o : ∀ i, i ≠ p → (zup w p (.inr (ci, fs.set k v))).2 i = w.2 i := fun i hi => if_neg hi
  have op : (zup w p (.inr (ci, fs.set k v))).2 p = .inr (ci, fs.set k v) := if_pos rfl
  refine ⟨h1, h2, fun i hi => ?_, op, fun i hi hp => by rw [o i hp]; exact h5 i hi hp, fun j y hj => ?_⟩
  · have hi : i < w.1 := hi
    by_cases e : i = p
    · subst e
      rw [op]
      intro q hq
      rcases List.mem_or_eq_of_mem_set hq with z | z
      · have := h3 i hi
        rw [h4] at this
        exact this q z
      · exact hv q z.symm
    · rw [o i e]; exact h3 i hi
  · have := (List.getElem?_eq_some_iff.mp hj).1
    rw [o _ (by omega)]; exact h6 j y hj
theorem Bld.lt (h : Bld w W0 n0 p ci fs cs) : p < w.1 := by have := h.1; have := h.2.1; omega
theorem Bld.frW {lv : List (Option Value)} {st : List Value} (h : Bld w W0 n0 p ci fs cs) (h1 : ∀ q : Nat, some (Value.ref q) ∈ lv → q < n0) (h2 : ∀ q : Nat, Value.ref q ∈ st → q < w.1 ∨ zB ≤ q) : zfrW w lv st :=
  ⟨fun i hi => (h.2.2.1 i hi).fr, fun q hq => Or.inl (by have := h1 q hq; have := h.1; omega), h2⟩
/-- an object that was made within -/
theorem Bld.join {w' : zWd} {ci' : Nat} {fs' : List Value} {cs' : List zCE} (h : Bld w W0 n0 p ci fs cs) {x : zCE} (h' : Bld w' (zpush w x).2 (w.1 + 1) w.1 ci' fs' cs') : Bld w' W0 n0 p ci fs (cs ++ (.inr (ci', fs') :: cs')) := by
  obtain ⟨h1, h2, h3, h4, h5, h6⟩ := h
  obtain ⟨k1, k2, k3, k4, k5, k6⟩ := h'
  have o : ∀ i, i < w.1 → w'.2 i = w.2 i := fun i hi => by rw [k5 i (by omega) (by omega)]; show (if i = w.1 then x else w.2 i) = _; rw [if_neg (by omega)]
  refine ⟨by simp; omega, h2, k3, by rw [o p (by omega)]; exact h4, fun i hi hp => by rw [o i (by omega)]; exact h5 i hi hp, fun j y hj => ?_⟩
  by_cases e : j < cs.length
  · rw [List.getElem?_append_left e] at hj
    rw [o _ (by omega)]; exact h6 j y hj
  · rw [List.getElem?_append_right (by omega)] at hj
    by_cases e2 : j = cs.length
    · subst e2
      rw [Nat.sub_self, List.getElem?_cons_zero] at hj
      rw [← h1, k4]
      exact Option.some.inj hj
    · obtain ⟨i, hi⟩ : ∃ i, j - cs.length = i + 1 := ⟨j - cs.length - 1, by omega⟩
      rw [hi, List.getElem?_cons_succ] at hj
      rw [show n0 + j = w.1 + 1 + i by omega]
      exact k6 i y hj
end ZBL
