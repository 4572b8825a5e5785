/-! what the start of the law gives -/
def lw_fl : List Cond := flatC (Jvm.Cond.and given_1 narrow_1)
def tmS (j : Nat) : Term := .static (zStC j).1 (zStC j).2 "[I"
/-- the twelve Strings, as the reference names them -/
def tmK (i : Nat) : Term := .string "CrewPairerModel" ([295, 297, 299, 301, 303, 305, 307, 309, 311, 313, 274, 276].getD i 0)
def tmV (i : Nat) : Term := .field (tmK i) "java/lang/String" "value" "[B"
theorem lwg_1 : ∀ i, i < 7 → Cond.arrayOf (tmS i) .int ∈ lw_fl := fun i hi => List.mem_of_getElem? ((by decide +kernel : ∀ i, i < 7 → lw_fl[([16, 27, 5, 43, 67, 78, 56] : List Nat).getD i 0]? = some (Cond.arrayOf (tmS i) .int)) i hi)
theorem lwg_2 : ∀ i, i < 7 → Cond.eq (.length (tmS i)) (.int (Int32.ofNat (zStL i).length)) ∈ lw_fl := fun i hi => List.mem_of_getElem? ((by decide +kernel : ∀ i, i < 7 → lw_fl[([17, 28, 6, 44, 68, 79, 57] : List Nat).getD i 0]? = some (Cond.eq (.length (tmS i)) (.int (Int32.ofNat (zStL i).length)))) i hi)
theorem lwg_3 : ∀ i, i < 7 → ∀ j, j < (zStL i).length → Cond.eq (.elem (tmS i) (.int (Int32.ofNat j))) (.int ((zStL i).getD j 0)) ∈ lw_fl := fun i hi j hj => List.mem_of_getElem? ((by decide +kernel : ∀ i, i < 7 → ∀ j, j < (zStL i).length → lw_fl[(([[18, 19, 20, 21, 22, 23, 24, 25], [29, 30, 31, 32, 33, 34, 35, 36], [7, 8, 9, 10, 11, 12, 13, 14], [45, 46, 47, 48, 49, 50, 51, 52, 53, 54], [69, 70, 71, 72, 73, 74, 75, 76], [80, 81, 82, 83, 84, 85, 86, 87], [58, 59, 60, 61, 62, 63, 64, 65]] : List (List Nat)).getD i []).getD j 0]? = some (Cond.eq (.elem (tmS i) (.int (Int32.ofNat j))) (.int ((zStL i).getD j 0)))) i hi j hj)
theorem lwg_4 : ∀ i, i < 12 → Cond.exactly (tmK i) "java/lang/String" ∈ lw_fl := fun i hi => List.mem_of_getElem? ((by decide +kernel : ∀ i, i < 12 → lw_fl[([299, 320, 343, 366, 391, 417, 444, 474, 503, 533, 255, 276] : List Nat).getD i 0]? = some (Cond.exactly (tmK i) "java/lang/String")) i hi)
theorem lwg_5 : ∀ i, i < 12 → Cond.eq (.field (tmK i) "java/lang/String" "coder" "B") (.int 0) ∈ lw_fl := fun i hi => List.mem_of_getElem? ((by decide +kernel : ∀ i, i < 12 → lw_fl[([300, 321, 344, 367, 392, 418, 445, 475, 504, 534, 256, 277] : List Nat).getD i 0]? = some (Cond.eq (.field (tmK i) "java/lang/String" "coder" "B") (.int 0))) i hi)
theorem lwg_6 : ∀ i, i < 12 → Cond.arrayOf (tmV i) .byte ∈ lw_fl := fun i hi => List.mem_of_getElem? ((by decide +kernel : ∀ i, i < 12 → lw_fl[([301, 322, 345, 368, 393, 419, 446, 476, 505, 535, 257, 278] : List Nat).getD i 0]? = some (Cond.arrayOf (tmV i) .byte)) i hi)
theorem lwg_7 : ∀ i, i < 12 → Cond.eq (.length (tmV i)) (.int (Int32.ofNat (zLen.getD i 0))) ∈ lw_fl := fun i hi => List.mem_of_getElem? ((by decide +kernel : ∀ i, i < 12 → lw_fl[([302, 323, 346, 369, 394, 420, 447, 477, 506, 536, 258, 279] : List Nat).getD i 0]? = some (Cond.eq (.length (tmV i)) (.int (Int32.ofNat (zLen.getD i 0))))) i hi)
theorem lwg_8 : ∀ i, i < 12 → ∀ j, j < zLen.getD i 0 → Cond.eq (.elem (tmV i) (.int (Int32.ofNat j))) (.int ((zByt.getD i []).getD j 0)) ∈ lw_fl := fun i hi j hj => List.mem_of_getElem? ((by decide +kernel : ∀ i, i < 12 → ∀ j, j < zLen.getD i 0 → lw_fl[(([[303, 304, 305], [324, 325, 326, 327], [347, 348, 349], [370, 371, 372, 373], [395, 396, 397, 398], [421, 422, 423, 424], [448, 449, 450, 451, 452, 453], [478, 479, 480, 481], [507, 508, 509, 510], [537, 538, 539, 540, 541, 542], [259, 260, 261, 262, 263], [280, 281, 282, 283, 284, 285]] : List (List Nat)).getD i []).getD j 0]? = some (Cond.eq (.elem (tmV i) (.int (Int32.ofNat j))) (.int ((zByt.getD i []).getD j 0)))) i hi j hj)
theorem lwg_9 : ∀ i, i < 12 → ∀ j, j < 12 → i ≠ j → Cond.not (Cond.eq (tmK i) (tmK j)) ∈ lw_fl ∨ Cond.not (Cond.eq (tmK j) (tmK i)) ∈ lw_fl := fun i hi j hj hij => ((by decide +kernel : ∀ i, i < 12 → ∀ j, j < 12 → i ≠ j → lw_fl[(([[99999, 342, 364, 388, 413, 439, 468, 496, 525, 557, 318, 319], [342, 99999, 365, 389, 414, 440, 469, 497, 526, 558, 340, 341], [364, 365, 99999, 390, 415, 441, 470, 498, 527, 559, 362, 363], [388, 389, 390, 99999, 416, 442, 471, 499, 528, 560, 386, 387], [413, 414, 415, 416, 99999, 443, 472, 500, 529, 561, 411, 412], [439, 440, 441, 442, 443, 99999, 473, 501, 530, 562, 437, 438], [468, 469, 470, 471, 472, 473, 99999, 502, 531, 563, 466, 467], [496, 497, 498, 499, 500, 501, 502, 99999, 532, 564, 494, 495], [525, 526, 527, 528, 529, 530, 531, 532, 99999, 565, 523, 524], [557, 558, 559, 560, 561, 562, 563, 564, 565, 99999, 555, 556], [318, 340, 362, 386, 411, 437, 466, 494, 523, 555, 99999, 298], [319, 341, 363, 387, 412, 438, 467, 495, 524, 556, 298, 99999]] : List (List Nat)).getD i []).getD j 0]? = some (Cond.not (Cond.eq (tmK i) (tmK j))) ∨ lw_fl[(([[99999, 342, 364, 388, 413, 439, 468, 496, 525, 557, 318, 319], [342, 99999, 365, 389, 414, 440, 469, 497, 526, 558, 340, 341], [364, 365, 99999, 390, 415, 441, 470, 498, 527, 559, 362, 363], [388, 389, 390, 99999, 416, 442, 471, 499, 528, 560, 386, 387], [413, 414, 415, 416, 99999, 443, 472, 500, 529, 561, 411, 412], [439, 440, 441, 442, 443, 99999, 473, 501, 530, 562, 437, 438], [468, 469, 470, 471, 472, 473, 99999, 502, 531, 563, 466, 467], [496, 497, 498, 499, 500, 501, 502, 99999, 532, 564, 494, 495], [525, 526, 527, 528, 529, 530, 531, 532, 99999, 565, 523, 524], [557, 558, 559, 560, 561, 562, 563, 564, 565, 99999, 555, 556], [318, 340, 362, 386, 411, 437, 466, 494, 523, 555, 99999, 298], [319, 341, 363, 387, 412, 438, 467, 495, 524, 556, 298, 99999]] : List (List Nat)).getD i []).getD j 0]? = some (Cond.not (Cond.eq (tmK j) (tmK i)))) i hi j hj hij).imp (fun z => List.mem_of_getElem? z) (fun z => List.mem_of_getElem? z)
theorem lwg_10 : ∀ q ∈ zStr, q.1 = "CrewPairerModel" ∧ Term.string q.1 q.2.1 = tmK q.2.2.2 ∨ Cond.eq (.string q.1 q.2.1) (tmK q.2.2.2) ∈ lw_fl := by
  have h : ∀ i, i < zStr.length → ∀ q, zStr[i]? = some q → (q.1 = "CrewPairerModel" ∧ Term.string q.1 q.2.1 = tmK q.2.2.2) ∨ lw_fl[([308, 331, 354, 379, 405, 432, 462, 491, 521, 554, 264, 287] : List Nat).getD i 0]? = some (Cond.eq (.string q.1 q.2.1) (tmK q.2.2.2)) := by
    have h1 : ∀ i, i < zStr.length → ((zStr[i]?.map fun q => decide (q.1 = "CrewPairerModel" ∧ Term.string q.1 q.2.1 = tmK q.2.2.2) || decide (lw_fl[([308, 331, 354, 379, 405, 432, 462, 491, 521, 554, 264, 287] : List Nat).getD i 0]? = some (Cond.eq (.string q.1 q.2.1) (tmK q.2.2.2)))) = some true) := by decide +kernel
    intro i hi q hq
    have h2 := h1 i hi
    rw [hq] at h2
    simpa using h2
  intro q hq
  obtain ⟨i, hi⟩ := List.getElem?_of_mem hq
  exact (h i (List.getElem?_eq_some_iff.mp hi).1 q hi).imp id (fun z => List.mem_of_getElem? z)
theorem lwg_11 : Cond.eq (.static "java/lang/String" "COMPACT_STRINGS" "Z") (.int 1) ∈ lw_fl ∧ Cond.isRef (.static "jdk/internal/util/Preconditions" "SIOOBE_FORMATTER" "Ljava/util/function/BiFunction;") ∈ lw_fl := by decide +kernel
theorem lwt_a : ∀ j, j < 7 → Cond.laysStatic (zStC j).1 (zStC j).2 "[I" ∈ lw_tbl ∧ Cond.initialized (zStC j).1 ∈ lw_tbl := fun j hj => ⟨List.mem_of_getElem? ((by decide +kernel : ∀ j, j < 7 → lw_tbl[([491, 493, 106, 914, 1105, 1107, 946] : List Nat).getD j 0]? = some (Cond.laysStatic (zStC j).1 (zStC j).2 "[I")) j hj), List.mem_of_getElem? ((by decide +kernel : ∀ j, j < 7 → lw_tbl[([73, 73, 73, 73, 83, 83, 83] : List Nat).getD j 0]? = some (Cond.initialized (zStC j).1)) j hj)⟩
theorem lwt_b1 : ∀ w ∈ zStr.map (fun q => Cond.stringRef q.1 q.2.1 q.2.2.1), w ∈ lw_tbl := ixOk_mem (is := [897, 898, 899, 900, 901, 902, 903, 904, 905, 906, 823, 824, 1425, 1426, 1427, 1428, 1429, 1430, 1431, 1432, 1433, 1434, 1399, 1400]) (by decide +kernel)
theorem lwt_b : ∀ q ∈ zStr, Cond.stringRef q.1 q.2.1 q.2.2.1 ∈ lw_tbl ∧ q.2.2.2 < 12 := fun q hq => ⟨lwt_b1 _ (List.mem_map.mpr ⟨q, hq, rfl⟩), (by decide : ∀ q ∈ zStr, q.2.2.2 < 12) q hq⟩
theorem lwt_c : Cond.laysStatic "java/lang/String" "COMPACT_STRINGS" "Z" ∈ lw_tbl ∧ Cond.initialized "java/lang/String" ∈ lw_tbl ∧ Cond.laysStatic "jdk/internal/util/Preconditions" "SIOOBE_FORMATTER" "Ljava/util/function/BiFunction;" ∈ lw_tbl ∧ Cond.initialized "jdk/internal/util/Preconditions" ∈ lw_tbl := ⟨List.mem_of_getElem? (i := 838) (by decide +kernel), List.mem_of_getElem? (i := 85) (by decide +kernel), List.mem_of_getElem? (i := 854) (by decide +kernel), List.mem_of_getElem? (i := 87) (by decide +kernel)⟩
theorem lwt_d : Cond.fieldLinkNest "CrewPairer$Commands" 44 "CrewPairer" "NUMBERS" "[I" "CrewPairer" ∈ lw_tbl ∧ Cond.fieldLinkNest "CrewPairer$Plan" 47 "CrewPairer" "RULE_FIRST" "[I" "CrewPairer" ∈ lw_tbl ∧ Cond.methodLinkNest "CrewPairer" 44 yX2_init "CrewPairer" ∈ lw_tbl ∧ Cond.methodLinkNest "CrewPairer" 51 yX4_init "CrewPairer" ∈ lw_tbl ∧ Cond.methodLinkNest "CrewPairer" 67 yX5_init "CrewPairer" ∈ lw_tbl ∧ Cond.methodLinkNest "CrewPairer" 74 yX0_init "CrewPairer" ∈ lw_tbl := ⟨List.mem_of_getElem? (i := 913) (by decide +kernel), List.mem_of_getElem? (i := 105) (by decide +kernel), List.mem_of_getElem? (i := 264) (by decide +kernel), List.mem_of_getElem? (i := 286) (by decide +kernel), List.mem_of_getElem? (i := 344) (by decide +kernel), List.mem_of_getElem? (i := 360) (by decide +kernel)⟩
theorem lwt_e : Cond.arrayOver (.object "CrewPairer$Plan") ∈ lw_tbl ∧ Cond.arrayOver (.object "java/lang/String") ∈ lw_tbl ∧ Cond.arrayOver (.array .int) ∈ lw_tbl ∧ Cond.arrayClass .int ∈ lw_tbl ∧ Cond.arrayClass .boolean ∈ lw_tbl ∧ Cond.arrayClass .char ∈ lw_tbl := ⟨List.mem_of_getElem? (i := 186) (by decide +kernel), List.mem_of_getElem? (i := 1424) (by decide +kernel), List.mem_of_getElem? (i := 104) (by decide +kernel), List.mem_of_getElem? (i := 178) (by decide +kernel), List.mem_of_getElem? (i := 261) (by decide +kernel), List.mem_of_getElem? (i := 357) (by decide +kernel)⟩
theorem lwt_f : ∀ ci, ci < 10 → Cond.instantiable (zRn ci) (zFn ci) ∈ wsL_law := fun ci h => List.mem_of_getElem? ((by decide +kernel : ∀ ci, ci < 10 → wsL_law[([44, 20, 28, 13, 32, 40, 24, 36, 1, 4] : List Nat).getD ci 0]? = some (Cond.instantiable (zRn ci) (zFn ci))) ci h)
section ZEV
variable {s : State} {b : Nat}
theorem env_K (hT : ∀ w ∈ lw_tbl, w.before #[Value.ref b] s = true) (hW : ∀ w ∈ wsL_law, w.before #[Value.ref b] s = true) : ∃ (dC : Nat → ClassId) (dI : Nat → Nat → Nat) (dA : Nat → ClassId), va_K (dC, dI) vwCl (zty dA) s := by
  have h0 : ∀ ci : Nat, ∃ q : ClassId × (Nat → Nat), ci < 10 → u_Kn s (zRn ci) (zFd ci) (zFn ci) q.1 q.2 := fun ci => by
    by_cases h : ci < 10
    · obtain ⟨cC, iS, hk⟩ := u_known hW (zin_ok ci h) (hW _ (lwt_f ci h))
      exact ⟨(cC, iS), fun _ => hk⟩
    · exact ⟨(0, fun _ => 0), fun z => absurd z h⟩
  have hac : ∀ ty : FieldType, (∀ C, ty ≠ .object C) → Cond.arrayClass ty ∈ lw_tbl → ∃ c : ClassId, ArrOfT s c ty ∧ va_RA s c ty := fun ty hno h => by
    obtain ⟨c, k, comp, h1, h2, h3⟩ := Cond.arrayClass_spec (hT _ h)
    refine ⟨c, fun N z => ⟨fun k h => (by cases h), k, h2, comp, h3⟩, ?_⟩
    cases ty <;> first | exact h1 | exact absurd rfl (hno _)
  have hao : ∀ C : String, Cond.arrayOver (.object C) ∈ lw_tbl → ∃ c : ClassId, ArrOfT s c (.object C) ∧ va_RA s c (.object C) := fun C h => by
    obtain ⟨comp, c, k, h1, -, h3, h4, h5⟩ := Cond.arrayOver_spec (hT _ h)
    exact ⟨c, fun N z => ⟨fun k h => (by cases h), k, h3, comp, h4⟩, k, comp, h3, h4, h1, h5⟩
  have h1 : ∀ t : Nat, ∃ c : ClassId, t < 6 → ArrOfT s c (zTy t) ∧ va_RA s c (zTy t) := fun t => by
    match t with
    | 0 => obtain ⟨c, h⟩ := hac .int (fun C h => by cases h) lwt_e.2.2.2.1; exact ⟨c, fun _ => h⟩
    | 1 => obtain ⟨c, h⟩ := hac .boolean (fun C h => by cases h) lwt_e.2.2.2.2.1; exact ⟨c, fun _ => h⟩
    | 2 => obtain ⟨c, h⟩ := hac .char (fun C h => by cases h) lwt_e.2.2.2.2.2; exact ⟨c, fun _ => h⟩
    | 3 =>
      obtain ⟨comp, c, k, h1, -, h3, h4, h5⟩ := arrayOverA_spec (hT _ lwt_e.2.2.1)
      exact ⟨c, fun _ => ⟨fun N z => ⟨fun k h => (by cases h), k, h3, comp, h4⟩, h5⟩⟩
    | 4 => obtain ⟨c, h⟩ := hao _ lwt_e.1; exact ⟨c, fun _ => h⟩
    | 5 => obtain ⟨c, h⟩ := hao _ lwt_e.2.1; exact ⟨c, fun _ => h⟩
    | n + 6 => exact ⟨0, fun h => absurd h (by omega)⟩
  obtain ⟨D, hD⟩ := Classical.axiomOfChoice h0
  obtain ⟨dA, hA⟩ := Classical.axiomOfChoice h1
  refine ⟨fun c => (D c).1, fun c => (D c).2, dA, fun ci q hq => ?_, fun k q hq => ?_⟩
  · have hci : ci < 10 := (List.getElem?_eq_some_iff.mp hq).1
    rw [zcl ci hci] at hq
    cases hq
    exact hD ci hci
  · have hk : k < 6 := by
      have := (List.getElem?_eq_some_iff.mp hq).1
      simpa [zty] using this
    rw [zty_at hk] at hq
    cases hq
    exact hA k hk
theorem env_E (hT : ∀ w ∈ lw_tbl, w.before #[Value.ref b] s = true) (hg : (Jvm.Cond.and given_1 narrow_1).before #[Value.ref b] s = true) (hI : ∃ cy : ClassId, s.vm.findClass (FieldType.array .int).toString = some cy) : ∃ locK : Nat → Nat, zEnv locK (fun q => s.heap.size ≤ q) s s.heap := by
  have hs : ∀ w ∈ lw_fl, w.before #[Value.ref b] s = true := flat_of_before _ hg
  have hA : ∀ a : Nat, a < s.heap.size → ¬ s.heap.size ≤ a := fun a h1 h2 => by omega
  have h0 : ∀ j : Nat, ∃ t : Nat, j < 7 → va_Z (zStC j).1 (zStC j).2 "[I" (.ref t) (fun q => s.heap.size ≤ q) s s.heap ∧ va_T .int t (zStL j).length (fun i => .int ((zStL j).getD i 0)) (fun q => s.heap.size ≤ q) s s.heap := fun j => by
    by_cases h : j < 7
    · have hlen : (zStL j).length < 2 ^ 31 := (by decide : ∀ j, j < 7 → (zStL j).length < 2 ^ 31) j h
      obtain ⟨t, h1, h2⟩ := va_Tof (A := fun q => s.heap.size ≤ q) (f := fun i => .int ((zStL j).getD i 0)) hlen (hs _ (lwg_1 j h)) (va_eqt (hs _ (lwg_2 j h))) (fun i hi => va_eqt (hs _ (lwg_3 j h i hi))) hA
      exact ⟨t, fun _ => ⟨va_Zof (hT _ (lwt_a j h).1) (hT _ (lwt_a j h).2) h1 hA, h2⟩⟩
    · exact ⟨0, fun z => absurd z h⟩
  obtain ⟨tS, htS⟩ := Classical.axiomOfChoice h0
  obtain ⟨adK, adV, hSt, hev⟩ := vk_Sof (N := 12) (tm := tmK) (len := zLen) (byt := zByt) (A := fun q => s.heap.size ≤ q) (by decide) (fun i hi => hs _ (lwg_4 i hi)) (fun i hi => hs _ (lwg_5 i hi)) (fun i hi => hs _ (lwg_6 i hi)) (fun i hi => hs _ (lwg_7 i hi)) (fun i hi j hj => hs _ (lwg_8 i hi j hj))
    (fun i j hi hj hij => (lwg_9 i hi j hj hij).imp (fun z => hs _ z) (fun z => hs _ z)) hA
  have hSI : ∃ f : Nat, va_Z "jdk/internal/util/Preconditions" "SIOOBE_FORMATTER" "Ljava/util/function/BiFunction;" (.ref f) (fun q => s.heap.size ≤ q) s s.heap ∨ va_Z "jdk/internal/util/Preconditions" "SIOOBE_FORMATTER" "Ljava/util/function/BiFunction;" .null (fun q => s.heap.size ≤ q) s s.heap := by
    obtain ⟨v, hv, hr⟩ := Cond.isRef_spec (hs _ lwg_11.2)
    cases v with
    | ref f => exact ⟨f, Or.inl (va_Zof (hT _ lwt_c.2.2.1) (hT _ lwt_c.2.2.2) hv hA)⟩
    | null => exact ⟨0, Or.inr (va_Zof (hT _ lwt_c.2.2.1) (hT _ lwt_c.2.2.2) hv hA)⟩
    | _ => cases hr
  obtain ⟨fm, hfm⟩ := hSI
  refine ⟨fun i => if i < zS then tS (i - zB) else if i < zV then adK (i - zS) else if i < zFm then adV (i - zV) else fm, ?_⟩
  generalize hloc : (fun i : Nat => if i < zS then tS (i - zB) else if i < zV then adK (i - zS) else if i < zFm then adV (i - zV) else fm) = locK
  have e1 : ∀ j, j < 7 → locK (zB + j) = tS j := fun j hj => by
    rw [← hloc]
    dsimp only
    rw [if_pos (by simp [zB, zS]; omega), Nat.add_sub_cancel_left]
  have e2 : ∀ j, j < 12 → locK (zS + j) = adK j := fun j hj => by
    rw [← hloc]
    dsimp only
    rw [if_neg (by omega), if_pos (by simp [zV, zS]; omega), Nat.add_sub_cancel_left]
  have e3 : ∀ j, j < 12 → locK (zV + j) = adV j := fun j hj => by
    rw [← hloc]
    dsimp only
    rw [if_neg (by simp [zV, zS]; omega), if_neg (by omega), if_pos (by simp [zV, zFm]; omega), Nat.add_sub_cancel_left]
  have e4 : locK zFm = fm := by
    rw [← hloc]
    dsimp only
    rw [if_neg (by decide), if_neg (by decide), if_neg (by decide)]
  refine ⟨fun j hj => by rw [e1 j hj]; exact htS j hj, fun q hq => ?_, ⟨⟨fun i hi => ?_, fun i j hi hj h => ?_⟩, va_Zof (hT _ lwt_c.1) (hT _ lwt_c.2.1) (va_eqt (hs _ lwg_11.1)) hA, by rw [e4]; exact hfm⟩, ⟨va_Nw.of rfl (hT _ lwt_d.1), va_Nw.of rfl (hT _ lwt_d.2.1)⟩, ⟨va_Nw.of rfl (hT _ lwt_d.2.2.1), va_Nw.of rfl (hT _ lwt_d.2.2.2.1), va_Nw.of rfl (hT _ lwt_d.2.2.2.2.1), va_Nw.of rfl (hT _ lwt_d.2.2.2.2.2)⟩, hT _ lwt_e.1, hT _ lwt_e.2.1, hT _ lwt_e.2.2.1, hI⟩
  · obtain ⟨r1, r2⟩ := lwt_b q hq
    rw [e2 _ r2]
    refine vk_R.of (hT _ r1) ?_
    rcases lwg_10 q hq with z | z
    · rw [z.2]; exact hev _ r2
    · exact va_eqv (hs _ z) (hev _ r2)
  · dsimp only
    rw [e2 i hi, e3 i hi]
    exact hSt.1 i hi
  · dsimp only at h
    rw [e2 i hi, e2 j hj] at h
    exact hSt.2 i j hi hj h
end ZEV
