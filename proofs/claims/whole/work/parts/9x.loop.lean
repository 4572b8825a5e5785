/-! the law's loop -/
theorem and63 (a : Int32) : ∃ k : Nat, k < 64 ∧ a &&& Int32.ofInt 63 = Int32.ofInt (k : Int) := by
  refine ⟨(a &&& Int32.ofInt 63).toBitVec.toNat, ?_, ?_⟩
  · rw [Int32.toBitVec_and, BitVec.toNat_and]
    exact Nat.lt_of_le_of_lt Nat.and_le_right (by decide)
  · apply Int32.toBitVec_inj.mp
    rw [Int32.toBitVec_ofInt, BitVec.ofInt_natCast, BitVec.ofNat_toNat, BitVec.setWidth_eq]
/-- the plan at the start -/
def P0 : Pl := ((0, 0), fun _ _ => 0, fun _ _ => 0, fun _ _ => 0, fun r => ([30, 600, 720, 480, 4, 600, 10, 500] : List Int).getD r 0)
theorem P0_ok : P0.ok := by
  refine ⟨by decide, by decide, fun l h => absurd h (Nat.not_lt_zero _), fun c h => absurd h (Nat.not_lt_zero _), fun c l => ⟨by show 0 ≤ 2; omega, fun h => absurd rfl h⟩, fun c c' l h => absurd h (by show ¬ (0 : Nat) = 1; omega), ?_⟩
  decide
theorem zA0_z {q : Nat} (h : ¬ ((q < 55 ∧ (q - 1) % 18 = 17) ∨ (57 ≤ q ∧ q < 201 ∧ (q - 57) % 18 = 17))) : zA0 q = fun _ => 0 := if_neg h
theorem zRu8_at : ∀ r, r < 8 → zRu8 r = Int32.ofInt (P0.ru r) := by decide +kernel
theorem zRu9_at : ∀ r, r < 8 → zRu9 (2 + r) = Int32.ofInt (P0.ru r) := by decide +kernel
theorem zRu9_0 : zRu9 0 = Int32.ofInt 0 ∧ zRu9 1 = Int32.ofInt 0 := by decide +kernel
theorem RC_0 : RC zF0 zA0 P0 [] none [] [] := by
  refine ⟨⟨⟨rfl, rfl⟩, fun l h => absurd h (Nat.not_lt_zero _), fun l h => absurd h (Nat.not_lt_zero _), fun l h => absurd h (Nat.not_lt_zero _), fun c _ h => ?_, fun c h l _ => ?_, fun r h => ?_⟩, ⟨0, by decide, by decide, rfl, rfl, fun k Q h => by simp at h⟩, ⟨rfl, fun Q h => by cases h⟩, ⟨by decide, rfl, fun k h => absurd h (Nat.not_lt_zero _)⟩, ⟨rfl, by decide, fun k h => absurd h (Nat.not_lt_zero _)⟩⟩
  · rw [zA0_z (by omega), zA0_z (by omega)]
    exact ⟨rfl, rfl⟩
  · rw [zA0_z (by omega)]
    rfl
  · have : zA0 (1 + 17) = zRu8 := if_pos (by omega)
    rw [this]
    exact zRu8_at r h
theorem RM_0 : RM (fun _ => 0) zA9 P0 [] none [] [] := by
  have e1 : zA9 1 = zRu9 := if_pos rfl
  refine ⟨?_, ⟨by decide, rfl, fun k Q h => by simp at h⟩, ⟨rfl, fun Q h => by cases h⟩, ⟨by decide, rfl, fun k q h => by simp at h⟩, ⟨rfl, by decide, fun k h => absurd h (Nat.not_lt_zero _)⟩, rfl⟩
  rw [e1]
  exact ⟨zRu9_0.1, zRu9_0.2, zRu9_at, fun l h => absurd h (Nat.not_lt_zero _), fun c h => absurd h (Nat.not_lt_zero _)⟩
theorem Rel_0 : Rel zF0 zA0 (fun _ => 0) zA9 := ⟨P0, [], none, [], [], P0_ok, RC_0, RM_0⟩
section ZLP
variable {p : Program} {l : Launch} {e : Env} {s : State} {m : MethodId} {below : List Frame} {meth : Method} {c : Code} {b : Nat} {dC : Nat → ClassId} {dI : Nat → Nat → Nat} {dA : Nat → ClassId} {locC locM : Nat → Nat} {L : Nat} {xs : Nat → Int32}
variable {n pc : Nat} {st : List Value} {FC AC AM : Nat → Nat → Int32} {FM : Nat → Int32} {cells slots : Nat}
theorem lsL_has {b a1 a2 n : Nat} : lv_has (lsL b a1 a2 n) 4 [(0, .ref b), (1, .ref a1), (2, .ref a2), (3, .int (Int32.ofInt (n : Int)))] := lv_entry [.ref b, .ref a1, .ref a2, .int (Int32.ofInt (n : Int))] (n := 4) (Nat.le_of_ble_eq_true rfl)
theorem lsL_of {ls : Array Slot} {lv : List (Nat × Value)} {b a1 a2 n : Nat} (h : lv_has ls 4 lv) (h0 : (0, .ref b) ∈ lv) (h1 : (1, .ref a1) ∈ lv) (h2 : (2, .ref a2) ∈ lv) (h3 : (3, .int (Int32.ofInt (n : Int))) ∈ lv) : ls = lsL b a1 a2 n := by
  apply Array.ext_getElem?
  intro i
  match i with
  | 0 => exact h.2.2 _ h0
  | 1 => exact h.2.2 _ h1
  | 2 => exact h.2.2 _ h2
  | 3 => exact h.2.2 _ h3
  | i + 4 =>
    have e1 : ls.size ≤ i + 4 := by rw [h.1]; omega
    have e2 : (lsL b a1 a2 n).size ≤ i + 4 := by show 4 ≤ i + 4; omega
    rw [Array.getElem?_eq_none e1, Array.getElem?_eq_none e2]
theorem LW.inc (hG : lwAll p s m meth c b L xs dC dI dA locC locM) (hd : decode code pc = .ok (.iinc 3 5, 3)) (h : LW p l e s m below meth c b dC dI dA locC locM (pc + 3) (n + 5) st FC AC FM AM cells slots) : LW p l e s m below meth c b dC dI dA locC locM pc n st FC AC FM AM cells slots := by
  intro H locs hp
  refine lv_iinc (k := 3) hG.1.1 hG.1.2.1 hd lsL_has rfl rfl (by decide) rfl (fun ls' hl' => ?_)
  have e : ls' = lsL b (locC 0) (locM 0) (n + 5) := lsL_of hl' (by simp [Value.category]) (by simp [Value.category]) (by simp [Value.category]) (by
    refine List.mem_cons.mpr (Or.inl ?_)
    rw [zi_add]
    rfl)
  rw [e]
  exact h H locs hp
theorem LW.gt {x y off : Int} {t : Nat} (hG : lwAll p s m meth c b L xs dC dI dA locC locM) (hx : -2147483648 ≤ x ∧ x < 2147483648) (hy : -2147483648 ≤ y ∧ y < 2147483648) (hd : decode code pc = .ok (.if_icmp .gt off, 3)) (ht : (pc : Int) + off = (t : Int)) (h1 : y < x → LW p l e s m below meth c b dC dI dA locC locM t n st FC AC FM AM cells slots) (h2 : ¬ y < x → LW p l e s m below meth c b dC dI dA locC locM (pc + 3) n st FC AC FM AM cells slots) : LW p l e s m below meth c b dC dI dA locC locM pc n (.int (Int32.ofInt y) :: .int (Int32.ofInt x) :: st) FC AC FM AM cells slots := by
  intro H locs hp
  have e : (Int32.ofInt y < Int32.ofInt x) = (y < x) := zi_lt hy hx
  exact lv_icmp_gt hG.1.1 hG.1.2.1 hd ht (fun q => h1 (e ▸ q) H locs hp) (fun q => h2 (fun z => q (e ▸ z)) H locs hp)
theorem LW.bi {z : Int} (hG : lwAll p s m meth c b L xs dC dI dA locC locM) (hz : -128 ≤ z ∧ z < 128) (hd : decode code pc = .ok (.bipush z, 2)) (h : LW p l e s m below meth c b dC dI dA locC locM (pc + 2) n (.int (Int32.ofInt z) :: st) FC AC FM AM cells slots) : LW p l e s m below meth c b dC dI dA locC locM pc n st FC AC FM AM cells slots := fun H locs hp => lv_bipush hG.1.1 hG.1.2.1 hd (zI8 hz) (h H locs hp)
theorem LW.tin {k : Nat} {dflt lo hi : Int} {offs : Array Int} {len : Nat} {off : Int} {t : Nat} (hG : lwAll p s m meth c b L xs dC dI dA locC locM) (hk : k < 64) (hd : decode code pc = .ok (.tableswitch dflt lo hi offs, len)) (hlo : lo = 0) (h2 : (k : Int) ≤ hi) (ho : offs[k]? = some off) (ht : (pc : Int) + off = (t : Int)) (h : LW p l e s m below meth c b dC dI dA locC locM t n st FC AC FM AM cells slots) : LW p l e s m below meth c b dC dI dA locC locM pc n (.int (Int32.ofInt (k : Int)) :: st) FC AC FM AM cells slots := by
  intro H locs hp
  have e : (Int32.ofInt (k : Int)).toInt = k := zi_toInt (by omega)
  refine lv_tableIn hG.1.1 hG.1.2.1 hd (by rw [e]; omega) (by rw [e]; omega) ?_ ht (h H locs hp)
  rw [e, hlo, Int.sub_zero, Int.toNat_natCast]
  exact ho
theorem LW.tout {k : Nat} {dflt lo hi : Int} {offs : Array Int} {len : Nat} {t : Nat} (hG : lwAll p s m meth c b L xs dC dI dA locC locM) (hk : k < 64) (hd : decode code pc = .ok (.tableswitch dflt lo hi offs, len)) (h2 : hi < (k : Int)) (ht : (pc : Int) + dflt = (t : Int)) (h : LW p l e s m below meth c b dC dI dA locC locM t n st FC AC FM AM cells slots) : LW p l e s m below meth c b dC dI dA locC locM pc n (.int (Int32.ofInt (k : Int)) :: st) FC AC FM AM cells slots := by
  intro H locs hp
  have e : (Int32.ofInt (k : Int)).toInt = k := zi_toInt (by omega)
  exact lv_tableOut hG.1.1 hG.1.2.1 hd (Or.inr (by rw [e]; exact h2)) ht (h H locs hp)
set_option maxRecDepth 100000 in
/-- one turn: the call that the script names, or none -/
theorem LW.turn {k : Nat} (hG : lwAll p s m meth c b L xs dC dI dA locC locM) (hk : k < 64) (hn : n + 5 ≤ L) (hc : cells + 200 ≤ 600000 ∧ slots + 2000 ≤ 7302250) (hR : Rel FC AC FM AM) (hk1 : ∀ FC1 AC1 FM1 AM1, Rel FC1 AC1 FM1 AM1 → LW p l e s m below meth c b dC dI dA locC locM 1441 n [] FC1 AC1 FM1 AM1 (cells + 200) (slots + 2000)) : LW p l e s m below meth c b dC dI dA locC locM 32 n [.int (Int32.ofInt (k : Int))] FC AC FM AM cells slots := by
  rcases (show k = 0 ∨ k = 1 ∨ k = 2 ∨ k = 3 ∨ k = 4 ∨ k = 5 ∨ k = 6 ∨ k = 7 ∨ k = 8 ∨ k = 9 ∨ k = 10 ∨ k = 11 ∨ k = 12 ∨ k = 13 ∨ k = 14 ∨ k = 15 ∨ k = 16 ∨ k = 17 ∨ k = 18 ∨ k = 19 ∨ k = 20 ∨ k = 21 ∨ k = 22 ∨ k = 23 ∨ k = 24 ∨ k = 25 ∨ k = 26 ∨ k = 27 ∨ k = 28 ∨ k = 29 ∨ k = 30 ∨ k = 31 ∨ k = 32 ∨ k = 33 ∨ k = 34 ∨ k = 35 ∨ k = 36 ∨ k = 37 ∨ k = 38 ∨ k = 39 ∨ k = 40 ∨ k = 41 ∨ k = 42 ∨ 43 ≤ k by omega) with rfl | rfl | rfl | rfl | rfl | rfl | rfl | rfl | rfl | rfl | rfl | rfl | rfl | rfl | rfl | rfl | rfl | rfl | rfl | rfl | rfl | rfl | rfl | rfl | rfl | rfl | rfl | rfl | rfl | rfl | rfl | rfl | rfl | rfl | rfl | rfl | rfl | rfl | rfl | rfl | rfl | rfl | rfl | h
  · exact LW.tin (t := 220) hG hk dL_law_32 rfl (by decide) rfl (by decide) (case_addLeg hG hn hc hR hk1)
  · exact LW.tin (t := 273) hG hk dL_law_32 rfl (by decide) rfl (by decide) (case_addCrew hG hn hc hR hk1)
  · exact LW.tin (t := 296) hG hk dL_law_32 rfl (by decide) rfl (by decide) (case_legCount hG hn hc hR hk1)
  · exact LW.tin (t := 309) hG hk dL_law_32 rfl (by decide) rfl (by decide) (case_crewCount hG hn hc hR hk1)
  · exact LW.tin (t := 322) hG hk dL_law_32 rfl (by decide) rfl (by decide) (case_leg hG hn hc hR hk1)
  · exact LW.tin (t := 355) hG hk dL_law_32 rfl (by decide) rfl (by decide) (case_setRule hG hn hc hR hk1)
  · exact LW.tin (t := 388) hG hk dL_law_32 rfl (by decide) rfl (by decide) (case_rule hG hn hc hR hk1)
  · exact LW.tin (t := 411) hG hk dL_law_32 rfl (by decide) rfl (by decide) (case_fly hG hn hc hR hk1)
  · exact LW.tin (t := 444) hG hk dL_law_32 rfl (by decide) rfl (by decide) (case_ride hG hn hc hR hk1)
  · exact LW.tin (t := 477) hG hk dL_law_32 rfl (by decide) rfl (by decide) (case_drop hG hn hc hR hk1)
  · exact LW.tin (t := 510) hG hk dL_law_32 rfl (by decide) rfl (by decide) (case_reason hG hn hc hR hk1)
  · exact LW.tin (t := 569) hG hk dL_law_32 rfl (by decide) rfl (by decide) (case_place hG hn hc hR hk1)
  · exact LW.tin (t := 628) hG hk dL_law_32 rfl (by decide) rfl (by decide) (case_itemCount hG hn hc hR hk1)
  · exact LW.tin (t := 651) hG hk dL_law_32 rfl (by decide) rfl (by decide) (case_item hG hn hc hR hk1)
  · exact LW.tin (t := 694) hG hk dL_law_32 rfl (by decide) rfl (by decide) (case_dutyCount hG hn hc hR hk1)
  · exact LW.tin (t := 717) hG hk dL_law_32 rfl (by decide) rfl (by decide) (case_duty hG hn hc hR hk1)
  · exact LW.tin (t := 760) hG hk dL_law_32 rfl (by decide) rfl (by decide) (case_violationCount hG hn hc hR hk1)
  · exact LW.tin (t := 783) hG hk dL_law_32 rfl (by decide) rfl (by decide) (case_violation hG hn hc hR hk1)
  · exact LW.tin (t := 826) hG hk dL_law_32 rfl (by decide) rfl (by decide) (case_minutes hG hn hc hR hk1)
  · exact LW.tin (t := 849) hG hk dL_law_32 rfl (by decide) rfl (by decide) (case_within hG hn hc hR hk1)
  · exact LW.tin (t := 892) hG hk dL_law_32 rfl (by decide) rfl (by decide) (case_home hG hn hc hR hk1)
  · exact LW.tin (t := 915) hG hk dL_law_32 rfl (by decide) rfl (by decide) (case_pairings hG hn hc hR hk1)
  · exact LW.tin (t := 938) hG hk dL_law_32 rfl (by decide) rfl (by decide) (case_cost hG hn hc hR hk1)
  · exact LW.tin (t := 971) hG hk dL_law_32 rfl (by decide) rfl (by decide) (case_openCount hG hn hc hR hk1)
  · exact LW.tin (t := 984) hG hk dL_law_32 rfl (by decide) rfl (by decide) (case_open hG hn hc hR hk1)
  · exact LW.tin (t := 1007) hG hk dL_law_32 rfl (by decide) rfl (by decide) (case_delay hG hn hc hR hk1)
  · exact LW.tin (t := 1040) hG hk dL_law_32 rfl (by decide) rfl (by decide) (case_cancel hG hn hc hR hk1)
  · exact LW.tin (t := 1063) hG hk dL_law_32 rfl (by decide) rfl (by decide) (case_setReserve hG hn hc hR hk1)
  · exact LW.tin (t := 1106) hG hk dL_law_32 rfl (by decide) rfl (by decide) (case_reserve hG hn hc hR hk1)
  · exact LW.tin (t := 1139) hG hk dL_law_32 rfl (by decide) rfl (by decide) (case_called hG hn hc hR hk1)
  · exact LW.tin (t := 1162) hG hk dL_law_32 rfl (by decide) rfl (by decide) (case_pair hG hn hc hR hk1)
  · exact LW.tin (t := 1175) hG hk dL_law_32 rfl (by decide) rfl (by decide) (case_offer hG hn hc hR hk1)
  · exact LW.tin (t := 1208) hG hk dL_law_32 rfl (by decide) rfl (by decide) (case_repair hG hn hc hR hk1)
  · exact LW.tin (t := 1221) hG hk dL_law_32 rfl (by decide) rfl (by decide) (case_repaired hG hn hc hR hk1)
  · exact LW.tin (t := 1254) hG hk dL_law_32 rfl (by decide) rfl (by decide) (case_bestMinutes hG hn hc hR hk1)
  · exact LW.tin (t := 1277) hG hk dL_law_32 rfl (by decide) rfl (by decide) (case_bestLeg hG hn hc hR hk1)
  · exact LW.tin (t := 1310) hG hk dL_law_32 rfl (by decide) rfl (by decide) (case_takeBest hG hn hc hR hk1)
  · exact LW.tin (t := 1333) hG hk dL_law_32 rfl (by decide) rfl (by decide) (case_letter hG hn hc hR hk1)
  · exact LW.tin (t := 1366) hG hk dL_law_32 rfl (by decide) rfl (by decide) (case_feed hG hn hc hR hk1)
  · exact LW.tin (t := 1389) hG hk dL_law_32 rfl (by decide) rfl (by decide) (case_execute hG hn hc hR hk1)
  · exact LW.tin (t := 1402) hG hk dL_law_32 rfl (by decide) rfl (by decide) (case_save hG hn hc hR hk1)
  · exact LW.tin (t := 1415) hG hk dL_law_32 rfl (by decide) rfl (by decide) (case_restore hG hn hc hR hk1)
  · exact LW.tin (t := 1428) hG hk dL_law_32 rfl (by decide) rfl (by decide) (case_undo hG hn hc hR hk1)
  · exact LW.tout (t := 1441) hG hk dL_law_32 (by omega) (by decide) (LW.widen (by omega) (by omega) (hk1 _ _ _ _ hR))
set_option maxRecDepth 100000 in
theorem law_loop (hG : lwAll p s m meth c b L xs dC dI dA locC locM) : ∀ (r n : Nat) (FC AC : Nat → Nat → Int32) (FM : Nat → Int32) (AM : Nat → Nat → Int32) (cells slots : Nat), L < n + 5 + 5 * r → n ≤ 5000 → cells + 200 * r ≤ 600000 → slots + 2000 * r ≤ 7302250 → Rel FC AC FM AM → LW p l e s m below meth c b dC dI dA locC locM 18 n [] FC AC FM AM cells slots := by
  have hL := hG.2.2.2.2.2
  intro r
  induction r with
  | zero =>
    intro n FC AC FM AM cells slots h1 h2 h3 h4 hR
    refine LW.i3 hG dL_law_18 (LW.a0 hG dL_law_19 (LW.len hG dL_law_20 (LW.ic hG dL_law_21 (LW.isub hG dL_law_22 ?_))))
    rw [zi_sub]
    refine LW.gt (t := 1447) hG (by omega) (by omega) dL_law_23 (by decide) (fun _ => ?_) (fun h => absurd (show (L : Int) - 5 < n by omega) h)
    exact LW.ic hG dL_law_1447 (LW.ret hG dL_law_1448 ⟨Nat.le_trans (Nat.le_add_right _ _) h3, Nat.le_trans (Nat.le_add_right _ _) h4⟩)
  | succ r ih =>
    intro n FC AC FM AM cells slots h1 h2 h3 h4 hR
    refine LW.i3 hG dL_law_18 (LW.a0 hG dL_law_19 (LW.len hG dL_law_20 (LW.ic hG dL_law_21 (LW.isub hG dL_law_22 ?_))))
    rw [zi_sub]
    refine LW.gt (t := 1447) hG (by omega) (by omega) dL_law_23 (by decide) (fun _ => ?_) (fun h => ?_)
    · exact LW.ic hG dL_law_1447 (LW.ret hG dL_law_1448 ⟨Nat.le_trans (Nat.le_add_right _ _) h3, Nat.le_trans (Nat.le_add_right _ _) h4⟩)
    · have hn : n + 5 ≤ L := by omega
      refine LW.a0 hG dL_law_26 (LW.i3 hG dL_law_27 (LW.ld (k := n) hG dL_law_28 rfl (by omega) (LW.bi hG (by decide) dL_law_29 (LW.iand hG dL_law_31 ?_))))
      obtain ⟨k, hk, ek⟩ := and63 (Int32.ofInt (xi xs n))
      rw [ek]
      have hc : cells + 200 ≤ 600000 ∧ slots + 2000 ≤ 7302250 := ⟨Nat.le_trans (show cells + 200 ≤ cells + 200 * (r + 1) by omega) h3, Nat.le_trans (show slots + 2000 ≤ slots + 2000 * (r + 1) by omega) h4⟩
      refine LW.turn (k := k) hG hk hn hc hR (fun FC1 AC1 FM1 AM1 hR1 => ?_)
      exact LW.inc hG dL_law_1441 (LW.goto (t := 18) hG dL_law_1444 (by decide) (ih (n + 5) FC1 AC1 FM1 AM1 _ _ (by omega) (by omega) (Nat.le_trans (show cells + 200 + 200 * r ≤ cells + 200 * (r + 1) by omega) h3) (Nat.le_trans (show slots + 2000 + 2000 * r ≤ slots + 2000 * (r + 1) by omega) h4) hR1))
end ZLP
