/-! the start of the law: both systems are made; then the loop -/
section ZST
theorem zw_one {dA : Nat → ClassId} {loc : Nat → Nat} {ci : Nat} {fs : List Value} (h : fs.map (zv loc) = fs) : zw dA loc (1, fun _ => .inr (ci, fs)) = [(loc 0, .inr (ci, fs))] := by
  show [(loc 0, (.inr (ci, fs.map (zv loc)) : va_E))] = _
  rw [h]
theorem lwP.one {s : State} {G : va_G} {dA : Nat → ClassId} {loc locC : Nat → Nat} {wC : zWd} {ci : Nat} {fs : List Value} {H : Heap} {locs : List Loc} (h : fs.map (zv loc) = fs) (hP : va_P G vwCl (zw dA locC wC ++ [(loc 0, .inr (ci, fs))]) H) (hD : va_D (fun q => s.heap.size ≤ q) (zw dA locC wC ++ [(loc 0, .inr (ci, fs))])) (hS : va_S (fun q => s.heap.size ≤ q) s.heap H locs) : lwP s G dA loc (1, fun _ => .inr (ci, fs)) locC wC H locs := by
  have hlen : (zw dA locC wC).length = wC.1 := zw_len
  have hl : ∀ (k : Nat) (q : Nat × va_E), (zw dA locC wC)[k]? = some q → (zw dA locC wC ++ [(loc 0, (.inr (ci, fs) : va_E))])[k]? = some q := fun k q hk => by
    rw [List.getElem?_append_left (List.getElem?_eq_some_iff.mp hk).1]
    exact hk
  have hr : (zw dA locC wC ++ [(loc 0, (.inr (ci, fs) : va_E))])[wC.1]? = some (loc 0, .inr (ci, fs)) := by
    rw [List.getElem?_append_right (by omega), hlen, Nat.sub_self]
    rfl
  have h1 : ∀ (k : Nat) (q : Nat × va_E), (zw dA loc (1, fun _ => .inr (ci, fs)))[k]? = some q → k = 0 ∧ q = (loc 0, .inr (ci, fs)) := fun k q hk => by
    rw [zw_one h] at hk
    have hk1 : k < 1 := (List.getElem?_eq_some_iff.mp hk).1
    have hk0 : k = 0 := by omega
    subst hk0
    exact ⟨rfl, (Option.some.inj hk).symm⟩
  refine ⟨fun k q hk => ?_, ⟨fun i j x y hi hj e => by rw [(h1 i x hi).1, (h1 j y hj).1], fun k q hk => ?_⟩, fun k q hk => hP k q (hl k q hk), ⟨fun i j x y hi hj e => hD.1 i j x y (hl i x hi) (hl j y hj) e, fun k q hk => hD.2 k q (hl k q hk)⟩, fun i hi j hj e => ?_, hS⟩
  · obtain ⟨rfl, rfl⟩ := h1 k q hk
    exact hP _ _ hr
  · obtain ⟨rfl, rfl⟩ := h1 k q hk
    exact hD.2 _ _ hr
  · have hi : i < 1 := hi
    have hi0 : i = 0 := by omega
    subst hi0
    have := hD.1 wC.1 j _ _ hr (hl j _ (zw_get hj)) e
    omega
theorem lwI_s : FieldType.int.toString = "I" ∧ (FieldType.array .int).toString = "[I" := by decide +kernel
set_option maxRecDepth 100000 in
theorem whole_start {p : Program} {e : Env} {s : State} {m : MethodId} {below : List Frame} {meth : Method} {c : Code} (l : Launch) (hflags : l.flags = flags0) {b L : Nat} {xs : Nat → Int32} (hL : L ≤ 2560) (C0 : lw_At p s m meth c b L xs) : W p l e room_1 s m #[Value.ref b] below meth c s.heap [] 0 0 (lw_Z below #[Value.ref b] s) (entryFrame m ([Value.ref b] : List Value).toArray 4) := by
  obtain ⟨hx, hb, hr, hml, hown, hT, hX, hbl, hlk, hg⟩ := C0
  have hW : ∀ w ∈ wsL_law, w.before #[Value.ref b] s = true := fun w h => hT w (lwt_all w h)
  obtain ⟨dC, dI, dA, hK⟩ := env_K hT hW
  obtain ⟨locK, hE⟩ := env_E hT hg (by
    obtain ⟨cc, k, comp, h1, -, -⟩ := Cond.arrayClass_spec (hT _ lwt_e.2.2.2.1)
    refine ⟨cc, ?_⟩
    rw [lwI_s.2]
    rw [lwI_s.1] at h1
    exact h1)
  have hF : lwFix p s m c b L xs dC dI dA := ⟨hx, hb, hml, hown, hW, hX, hbl, hK⟩
  rw [lg_entry_eq]
  have hl := lv_entry [Value.ref b] (n := 4) (Nat.le_of_ble_eq_true rfl)
  generalize (lg_sl [Value.ref b] ++ List.replicate (4 - (lg_sl [Value.ref b]).length) Slot.unset).toArray = ls at hl ⊢
  have hl : lv_has ls 4 [(0, .ref b)] := hl
  have hdis : ∀ i, zB ≤ i → ¬ i < zB := fun i h1 h2 => by omega
  refine va_new (ci := 8) (fs := ([.null, .null, .null, .int 0, .null, .null, .null, .null, .null, .null, .null] : List Value)) (D := (dC, dI)) (A := fun q => s.heap.size ≤ q) (H0 := s.heap) (ws := zw dA locK (0, fun _ => .inr (99, []))) hx hb (Ts := wsL_law) hW (fun x hx => zin_ok 8 (by decide) x hx) (zFt 8) (zFt_ok 8 (by decide)) hown (hW _ (zr_1 _ (List.mem_of_getElem? (i := 0) rfl))) (hW _ (zr_1 _ (List.mem_of_getElem? (i := 1) rfl))) (hW _ (zr_1 _ (List.mem_of_getElem? (i := 2) rfl))) hK (fun k q h => by cases h) ⟨fun i j x y h => by (cases h), fun k q h => by cases h⟩ va_S.rf (fun _ h => h) (zcl 8 (by decide)) (fun j hj => (by decide : ∀ j, j < 11 → defaultValue (zFt 8 j) = vp_V ([.null, .null, .null, .int 0, .null, .null, .null, .null, .null, .null, .null] : List Value) j) j hj) (by decide) (by decide) dL_law_0 (fun q1 H1 p1 d1 s1 => ?_)
  obtain ⟨loc1, el1, eb1⟩ : ∃ f : Nat → Nat, f 0 = q1 ∧ ∀ i, zB ≤ i → f i = locK i := ⟨fun i => if i < zB then q1 else locK i, if_pos (by decide), fun i hi => if_neg (hdis i hi)⟩
  subst el1
  have hE1 : zEnv loc1 (fun q => s.heap.size ≤ q) s s.heap := hE.loc eb1
  have hp1 := lwP.one (s := s) (loc := loc1) rfl p1 d1 s1
  refine lv_dup hx hb dL_law_3 rfl ?_
  refine lw_callI (n := 0) (d := 3) (rest := [.ref (loc1 0)]) hF hE1 hp1 lm_X8_init rfl rfl (by decide) (by decide) (Nat.le_of_ble_eq_true rfl) hl.1 dL_law_4 (by decide) (con_X8 (d := 0) (K := fun r w' => r = none ∧ w' = cW zF0 zA0) rfl rfl ⟨rfl, rfl⟩) (fun r w' locC H2 locs2 hQ hloc hle hp2 => ?_)
  obtain ⟨rfl, rfl⟩ := hQ
  have eC : locC 0 = loc1 0 := hloc 0 (Or.inl (by decide))
  have h226 : ∀ i, zB ≤ i → 226 ≤ i := fun i hi => Nat.le_trans (by decide) hi
  have ebC : ∀ i, zB ≤ i → locC i = loc1 i := fun i hi => hloc i (Or.inr (h226 i hi))
  have hEC : zEnv locC (fun q => s.heap.size ≤ q) s s.heap := hE1.loc ebC
  show W p l e room_1 s m #[Value.ref b] below meth c H2 locs2 226 5775 (lw_Z below #[Value.ref b] s) (F0 m 7 ls [.ref (loc1 0)])
  rw [← eC]
  refine lv_astore_n hx hb dL_law_7 rfl hl (by decide) rfl (fun ls1 hl1 => ?_)
  have hl1 : lv_has ls1 4 [(1, .ref (locC 0)), (0, .ref b)] := hl1
  refine va_new (ci := 9) (fs := ([.null, .null, .int 0, .null, .int 0, .null, .int 0, .null, .int 0, .int 0, .null, .int 0, .int 0, .int 0, .int 0, .int 0, .null, .null, .int 0, .null, .null, .int 0, .int 0, .null, .int 0, .null, .int 0, .int 0, .int 0, .null] : List Value)) (D := (dC, dI)) (A := fun q => s.heap.size ≤ q) (H0 := s.heap) (ws := zw dA locC (cW zF0 zA0)) hx hb (Ts := wsL_law) hW (fun x hx => zin_ok 9 (by decide) x hx) (zFt 9) (zFt_ok 9 (by decide)) hown (hW _ (zr_1 _ (List.mem_of_getElem? (i := 3) rfl))) (hW _ (zr_1 _ (List.mem_of_getElem? (i := 4) rfl))) (hW _ (zr_1 _ (List.mem_of_getElem? (i := 5) rfl))) hK hp2.1 hp2.2.1 hp2.2.2.2.2.2 (fun _ h => h) (zcl 9 (by decide)) (fun j hj => (by decide : ∀ j, j < 30 → defaultValue (zFt 9 j) = vp_V ([.null, .null, .int 0, .null, .int 0, .null, .int 0, .null, .int 0, .int 0, .null, .int 0, .int 0, .int 0, .int 0, .int 0, .null, .null, .int 0, .null, .null, .int 0, .int 0, .null, .int 0, .null, .int 0, .int 0, .int 0, .null] : List Value) j) j hj) (by decide) (by decide) dL_law_8 (fun q2 H3 p3 d3 s3 => ?_)
  obtain ⟨loc2, el2, eb2⟩ : ∃ f : Nat → Nat, f 0 = q2 ∧ ∀ i, zB ≤ i → f i = locK i := ⟨fun i => if i < zB then q2 else locK i, if_pos (by decide), fun i hi => if_neg (hdis i hi)⟩
  subst el2
  have hE2 : zEnv loc2 (fun q => s.heap.size ≤ q) s s.heap := hE.loc eb2
  have hp3 := lwP.one (s := s) (loc := loc2) rfl p3 d3 s3
  refine lv_dup hx hb dL_law_11 rfl ?_
  refine lw_callI (n := 0) (d := 1) (rest := [.ref (loc2 0)]) hF hE2 hp3 lm_X9_init rfl rfl (by decide) (by decide) (Nat.le_of_ble_eq_true rfl) hl1.1 dL_law_12 (by decide) (con_X9 (d := 0) (K := fun r w' => r = none ∧ w' = mW (fun _ => 0) zA9) rfl rfl ⟨rfl, rfl⟩) (fun r w' locM H4 locs4 hQ hloc2 hle2 hp4 => ?_)
  obtain ⟨rfl, rfl⟩ := hQ
  have eM : locM 0 = loc2 0 := hloc2 0 (Or.inl (by decide))
  have h14 : ∀ i, zB ≤ i → 14 ≤ i := fun i hi => Nat.le_trans (by decide) hi
  have ebM : ∀ i, zB ≤ i → locM i = loc2 i := fun i hi => hloc2 i (Or.inr (h14 i hi))
  have hEM : zEnv locM (fun q => s.heap.size ≤ q) s s.heap := hE2.loc ebM
  show W p l e room_1 s m #[Value.ref b] below meth c H4 locs4 240 10601 (lw_Z below #[Value.ref b] s) (F0 m 15 ls1 [.ref (loc2 0)])
  rw [← eM]
  refine lv_astore_n hx hb dL_law_15 rfl hl1 (by decide) rfl (fun ls2 hl2 => ?_)
  have hl2 : lv_has ls2 4 [(2, .ref (locM 0)), (1, .ref (locC 0)), (0, .ref b)] := hl2
  refine lv_iconst hx hb dL_law_16 rfl ?_
  refine lv_istore_n hx hb dL_law_17 rfl hl2 (by decide) rfl (fun ls3 hl3 => ?_)
  have hl3 : lv_has ls3 4 [(3, .int (Int32.ofInt ((0 : Nat) : Int))), (2, .ref (locM 0)), (1, .ref (locC 0)), (0, .ref b)] := hl3
  have e3 : ls3 = lsL b (locC 0) (locM 0) 0 := lsL_of hl3 (by simp) (by simp) (by simp) (by simp)
  rw [e3]
  have hG : lwAll p s m meth c b L xs dC dI dA locC locM := ⟨hF, hEC, hEM, hr, hlk, hL⟩
  exact law_loop hG 513 0 zF0 zA0 (fun _ => 0) zA9 240 10601 (by omega) (by decide) (by decide) (by decide) Rel_0 H4 locs4 hp4.swap
end ZST
