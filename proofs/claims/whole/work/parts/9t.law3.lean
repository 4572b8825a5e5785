/-! the law, one piece after another -/
section ZLR
variable {p : Program} {l : Launch} {e : Env} {s : State} {m : MethodId} {below : List Frame} {meth : Method} {c : Code} {b : Nat} {dC : Nat → ClassId} {dI : Nat → Nat → Nat} {dA : Nat → ClassId} {locC locM : Nat → Nat} {L : Nat} {xs : Nat → Int32}
variable {pc n : Nat} {st : List Value} {FC AC AM : Nat → Nat → Int32} {FM : Nat → Int32} {cells slots : Nat}
def lwAll (p : Program) (s : State) (m : MethodId) (meth : Method) (c : Code) (b L : Nat) (xs : Nat → Int32) (dC : Nat → ClassId) (dI : Nat → Nat → Nat) (dA : Nat → ClassId) (locC locM : Nat → Nat) : Prop :=
  lwFix p s m c b L xs dC dI dA ∧ zEnv locC (fun q => s.heap.size ≤ q) s s.heap ∧ zEnv locM (fun q => s.heap.size ≤ q) s s.heap ∧ meth.sig.returnType = ret ∧ meth.locks = false ∧ L ≤ 2560
def lsL (b a1 a2 : Nat) (n : Nat) : Array Slot := #[.val (.ref b), .val (.ref a1), .val (.ref a2), .val (.int (Int32.ofInt (n : Int)))]
def xi (xs : Nat → Int32) (j : Nat) : Int := (xs j).toInt
theorem xi_r {j : Nat} : -2147483648 ≤ xi xs j ∧ xi xs j < 2147483648 := ⟨Int32.le_toInt _, Int32.toInt_lt _⟩
theorem xi_e {j : Nat} : Int32.ofInt (xi xs j) = xs j := Int32.ofInt_toInt _
/-- at a place of the law, with both systems -/
def LW (p : Program) (l : Launch) (e : Env) (s : State) (m : MethodId) (below : List Frame) (meth : Method) (c : Code) (b : Nat) (dC : Nat → ClassId) (dI : Nat → Nat → Nat) (dA : Nat → ClassId) (locC locM : Nat → Nat) (pc n : Nat) (st : List Value) (FC AC : Nat → Nat → Int32) (FM : Nat → Int32) (AM : Nat → Nat → Int32) (cells slots : Nat) : Prop :=
  ∀ H locs, lwP s (dC, dI) dA locC (cW FC AC) locM (mW FM AM) H locs → W p l e room_1 s m #[Value.ref b] below meth c H locs cells slots (lw_Z below #[Value.ref b] s) (F0 m pc (lsL b (locC 0) (locM 0) n) st)
theorem LW.widen {k1 k2 : Nat} (h1 : cells ≤ k1) (h2 : slots ≤ k2) (h : LW p l e s m below meth c b dC dI dA locC locM pc n st FC AC FM AM k1 k2) : LW p l e s m below meth c b dC dI dA locC locM pc n st FC AC FM AM cells slots := fun H locs hp => W.widen h1 h2 (h H locs hp)
theorem LW.a0 (hG : lwAll p s m meth c b L xs dC dI dA locC locM) (hd : decode code pc = .ok (.aload_n 0, 1)) (h : LW p l e s m below meth c b dC dI dA locC locM (pc + 1) n (.ref b :: st) FC AC FM AM cells slots) : LW p l e s m below meth c b dC dI dA locC locM pc n st FC AC FM AM cells slots := fun H locs hp => lv_aload_n hG.1.1 hG.1.2.1 hd rfl rfl (h H locs hp)
theorem LW.a1 (hG : lwAll p s m meth c b L xs dC dI dA locC locM) (hd : decode code pc = .ok (.aload_n 1, 1)) (h : LW p l e s m below meth c b dC dI dA locC locM (pc + 1) n (.ref (locC 0) :: st) FC AC FM AM cells slots) : LW p l e s m below meth c b dC dI dA locC locM pc n st FC AC FM AM cells slots := fun H locs hp => lv_aload_n hG.1.1 hG.1.2.1 hd rfl rfl (h H locs hp)
theorem LW.a2 (hG : lwAll p s m meth c b L xs dC dI dA locC locM) (hd : decode code pc = .ok (.aload_n 2, 1)) (h : LW p l e s m below meth c b dC dI dA locC locM (pc + 1) n (.ref (locM 0) :: st) FC AC FM AM cells slots) : LW p l e s m below meth c b dC dI dA locC locM pc n st FC AC FM AM cells slots := fun H locs hp => lv_aload_n hG.1.1 hG.1.2.1 hd rfl rfl (h H locs hp)
theorem LW.i3 (hG : lwAll p s m meth c b L xs dC dI dA locC locM) (hd : decode code pc = .ok (.iload_n 3, 1)) (h : LW p l e s m below meth c b dC dI dA locC locM (pc + 1) n (.int (Int32.ofInt (n : Int)) :: st) FC AC FM AM cells slots) : LW p l e s m below meth c b dC dI dA locC locM pc n st FC AC FM AM cells slots := fun H locs hp => lv_iload_n hG.1.1 hG.1.2.1 hd rfl rfl (h H locs hp)
theorem LW.ic {z : Int} (hG : lwAll p s m meth c b L xs dC dI dA locC locM) (hd : decode code pc = .ok (.iconst z, 1)) (h : LW p l e s m below meth c b dC dI dA locC locM (pc + 1) n (.int (Int32.ofInt z) :: st) FC AC FM AM cells slots) : LW p l e s m below meth c b dC dI dA locC locM pc n st FC AC FM AM cells slots := fun H locs hp => lv_iconst hG.1.1 hG.1.2.1 hd rfl (h H locs hp)
theorem LW.iadd {x y : Int32} (hG : lwAll p s m meth c b L xs dC dI dA locC locM) (hd : decode code pc = .ok (.iadd, 1)) (h : LW p l e s m below meth c b dC dI dA locC locM (pc + 1) n (.int (x + y) :: st) FC AC FM AM cells slots) : LW p l e s m below meth c b dC dI dA locC locM pc n (.int y :: .int x :: st) FC AC FM AM cells slots := fun H locs hp => lv_iadd hG.1.1 hG.1.2.1 hd (h H locs hp)
theorem LW.isub {x y : Int32} (hG : lwAll p s m meth c b L xs dC dI dA locC locM) (hd : decode code pc = .ok (.isub, 1)) (h : LW p l e s m below meth c b dC dI dA locC locM (pc + 1) n (.int (x - y) :: st) FC AC FM AM cells slots) : LW p l e s m below meth c b dC dI dA locC locM pc n (.int y :: .int x :: st) FC AC FM AM cells slots := fun H locs hp => lv_isub hG.1.1 hG.1.2.1 hd (h H locs hp)
theorem LW.iand {x y : Int32} (hG : lwAll p s m meth c b L xs dC dI dA locC locM) (hd : decode code pc = .ok (.iand, 1)) (h : LW p l e s m below meth c b dC dI dA locC locM (pc + 1) n (.int (x &&& y) :: st) FC AC FM AM cells slots) : LW p l e s m below meth c b dC dI dA locC locM pc n (.int y :: .int x :: st) FC AC FM AM cells slots := fun H locs hp => lv_iand hG.1.1 hG.1.2.1 hd (h H locs hp)
theorem LW.goto {off : Int} {t : Nat} (hG : lwAll p s m meth c b L xs dC dI dA locC locM) (hd : decode code pc = .ok (.goto off, 3)) (ht : (pc : Int) + off = (t : Int)) (h : LW p l e s m below meth c b dC dI dA locC locM t n st FC AC FM AM cells slots) : LW p l e s m below meth c b dC dI dA locC locM pc n st FC AC FM AM cells slots := fun H locs hp => lv_goto hG.1.1 hG.1.2.1 hd ht (h H locs hp)
theorem LW.ld {z : Int} {k : Nat} (hG : lwAll p s m meth c b L xs dC dI dA locC locM) (hd : decode code pc = .ok (.iaload, 1)) (hz : z = (k : Int)) (hk : k < L) (h : LW p l e s m below meth c b dC dI dA locC locM (pc + 1) n (.int (Int32.ofInt (xi xs k)) :: st) FC AC FM AM cells slots) : LW p l e s m below meth c b dC dI dA locC locM pc n (.int (Int32.ofInt z) :: .ref b :: st) FC AC FM AM cells slots := by
  intro H locs hp
  have hL := hG.2.2.2.2.2
  refine va_sld hG.1.1 hG.1.2.1 hG.1.2.2.2.2.2.1 hG.1.2.2.2.2.2.2.1 (by have := hG.1.2.2.2.2.2.2.1; omega) hp.2.2.2.2.2 (i := Int32.ofInt z) (by rw [zi_in (by omega) (by omega)]; omega) hd ?_
  rw [zi_clamp (by omega), show z.toNat = k by omega, ← xi_e (xs := xs) (j := k)]
  exact h H locs hp
theorem LW.len (hG : lwAll p s m meth c b L xs dC dI dA locC locM) (hd : decode code pc = .ok (.arraylength, 1)) (h : LW p l e s m below meth c b dC dI dA locC locM (pc + 1) n (.int (Int32.ofInt (L : Int)) :: st) FC AC FM AM cells slots) : LW p l e s m below meth c b dC dI dA locC locM pc n (.ref b :: st) FC AC FM AM cells slots := by
  intro H locs hp
  exact va_slen hG.1.1 hG.1.2.1 hG.1.2.2.2.2.2.1 hG.1.2.2.2.2.2.2.1 (by have := hG.1.2.2.2.2.2.2.1; omega) hp.2.2.2.2.2 hd (h H locs hp)
/-- one of the script's numbers -/
theorem LW.arg {k : Nat} {z : Int} (hG : lwAll p s m meth c b L xs dC dI dA locC locM) (hn : n + k < L) (hz : z = (k : Int)) (d0 : decode code pc = .ok (.aload_n 0, 1)) (d1 : decode code (pc + 1) = .ok (.iload_n 3, 1)) (d2 : decode code (pc + 2) = .ok (.iconst z, 1)) (d3 : decode code (pc + 3) = .ok (.iadd, 1)) (d4 : decode code (pc + 4) = .ok (.iaload, 1))
    (h : LW p l e s m below meth c b dC dI dA locC locM (pc + 5) n (.int (Int32.ofInt (xi xs (n + k))) :: st) FC AC FM AM cells slots) : LW p l e s m below meth c b dC dI dA locC locM pc n st FC AC FM AM cells slots := by
  refine LW.a0 hG d0 (LW.i3 hG d1 (LW.ic hG d2 (LW.iadd hG d3 ?_)))
  rw [zi_add]
  exact LW.ld hG d4 (k := n + k) (by omega) hn h
theorem LW.ifeq {x : Int} {off : Int} {t : Nat} (hG : lwAll p s m meth c b L xs dC dI dA locC locM) (hx : -2147483648 ≤ x ∧ x < 2147483648) (hd : decode code pc = .ok (.ifCond .eq off, 3)) (ht : (pc : Int) + off = (t : Int)) (h1 : x = 0 → LW p l e s m below meth c b dC dI dA locC locM t n st FC AC FM AM cells slots) (h2 : ¬ x = 0 → LW p l e s m below meth c b dC dI dA locC locM (pc + 3) n st FC AC FM AM cells slots) : LW p l e s m below meth c b dC dI dA locC locM pc n (.int (Int32.ofInt x) :: st) FC AC FM AM cells slots := by
  intro H locs hp
  have e : (Int32.ofInt x = 0) = (x = 0) := by rw [zi_0]; exact zi_eq hx (by omega)
  exact lv_if_eq hG.1.1 hG.1.2.1 hd ht (fun q => h1 (e ▸ q) H locs hp) (fun q => h2 (fun z => q (e ▸ z)) H locs hp)
/-- whether one of the script's numbers isn't 0 -/
theorem LW.argB {k : Nat} {z off off2 : Int} (hG : lwAll p s m meth c b L xs dC dI dA locC locM) (hn : n + k < L) (hz : z = (k : Int)) (d0 : decode code pc = .ok (.aload_n 0, 1)) (d1 : decode code (pc + 1) = .ok (.iload_n 3, 1)) (d2 : decode code (pc + 2) = .ok (.iconst z, 1)) (d3 : decode code (pc + 3) = .ok (.iadd, 1)) (d4 : decode code (pc + 4) = .ok (.iaload, 1))
    (d5 : decode code (pc + 5) = .ok (.ifCond .eq off, 3)) (ho : off = 7) (d6 : decode code (pc + 8) = .ok (.iconst 1, 1)) (d7 : decode code (pc + 9) = .ok (.goto off2, 3)) (ho2 : off2 = 4) (d8 : decode code (pc + 12) = .ok (.iconst 0, 1))
    (h : LW p l e s m below meth c b dC dI dA locC locM (pc + 13) n (.int (Int32.ofInt (zb (decide (xi xs (n + k) ≠ 0)))) :: st) FC AC FM AM cells slots) : LW p l e s m below meth c b dC dI dA locC locM pc n st FC AC FM AM cells slots := by
  refine LW.arg hG hn hz d0 d1 d2 d3 d4 (LW.ifeq (t := pc + 12) hG xi_r d5 (by omega) (fun hx => ?_) (fun hx => ?_))
  · rw [show decide (xi xs (n + k) ≠ 0) = false by simp [hx]] at h
    exact LW.ic hG d8 h
  · rw [show decide (xi xs (n + k) ≠ 0) = true by simp [hx]] at h
    exact LW.ic hG d6 (LW.goto (t := pc + 13) hG d7 (by omega) h)
/-- a call of the class -/
theorem LW.cc {q : zMth} {idx k d : Nat} {As rest : List Value} (hG : lwAll p s m meth c b L xs dC dI dA locC locM) (hM : lwM q idx k 8) (hsel : Cond.selects (zRn 8) q.1 q.1 ∈ wsL_law) (hn : As.length = k) (hd : d ≤ 40) (hq : zwm q = 0 ∧ zws q = 0) (hAs : ∀ loc : Nat → Nat, As.map (zv loc) = As) (hrest : (rest.map fun v => v.category).sum ≤ 8) (hdg : decode code pc = .ok (.invokevirtual idx, 3)) (hc : cells ≤ 600000 ∧ slots ≤ 7302250)
    (hm : MOk d q (.ref 0 :: As) (cW FC AC) (fun r w' => ∃ (z : Int32) (F' A' : Nat → Nat → Int32), r = some (.int z) ∧ w' = cW F' A' ∧ LW p l e s m below meth c b dC dI dA locC locM (pc + 3) n (.int z :: rest) F' A' FM AM cells slots)) : LW p l e s m below meth c b dC dI dA locC locM pc n (As.reverse ++ .ref (locC 0) :: rest) FC AC FM AM cells slots := by
  intro H locs hp
  refine lw_callV hG.1 hG.2.1 hp hM hsel hn hd (by decide : 0 < 226) (ci := 8) (fs := _) rfl (by show 226 + zwm q ≤ zB; rw [hq.1]; decide) (hAs _) hrest rfl hdg (by rw [hq.1, hq.2]; exact hc) hm (fun r w' loc' H' locs' hQ hloc hle hp' => ?_)
  obtain ⟨z, F', A', rfl, rfl, hk⟩ := hQ
  have el : loc' = locC := funext fun i => hloc i (by rw [hq.1]; omega)
  subst el
  rw [hq.1, hq.2]
  exact hk H' locs' hp'
/-- a world's cells name only what is there -/
theorem zw_cong {dA : Nat → ClassId} {loc loc' : Nat → Nat} {w : zWd} (hb : ∀ i, i < w.1 → zbC w.1 (w.2 i)) (hl : ∀ i, i < w.1 → loc' i = loc i) : zw dA loc' w = zw dA loc w := by
  unfold zw
  refine List.map_congr_left (fun i hi => ?_)
  have hi := List.mem_range.mp hi
  rw [hl i hi]
  have : zc dA loc' (w.2 i) = zc dA loc (w.2 i) := by
    have hb := hb i hi
    cases hx : w.2 i with
    | inl x =>
      obtain ⟨t, k, f⟩ := x
      rw [hx] at hb
      rcases f with f | f | f | f | g
      · rfl
      · rfl
      · rfl
      · rfl
      · simp only [zc, za]
        have : (fun i => Option.map loc' (g i)) = (fun i => Option.map loc (g i)) := by
          funext j
          cases hg : g j with
          | none => rfl
          | some q => show some _ = some _; rw [hl q (hb j q hg)]
        rw [this]
    | inr x =>
      obtain ⟨ci, fs⟩ := x
      rw [hx] at hb
      simp only [zc]
      have : fs.map (zv loc') = fs.map (zv loc) := List.map_congr_left fun v hv => zv_eqN (fun q e => hl q (hb q (by rw [← e]; exact hv)))
      rw [this]
  rw [this]
theorem mW_bd {F : Nat → Int32} {A : Nat → Nat → Int32} : ∀ i, i < (mW F A).1 → zbC (mW F A).1 ((mW F A).2 i) := by
  intro i hi
  have hi : i < 14 := hi
  show zbC 14 (mShape i F (A i))
  match i, hi with
  | 0, _ =>
    intro q hq
    have hq : Value.ref q ∈ ([.ref 1, .ref 2, .int (F 2), .ref 3, .int (F 4), .ref 4, .int (F 6), .ref 5, .int (F 8), .int (F 9), .ref 6, .int (F 11), .int (F 12), .int (F 13), .int (F 14), .int (F 15), .ref 7, .ref 8, .int (F 18), .ref 9, .ref 10, .int (F 21), .int (F 22), .ref 11, .int (F 24), .ref 12, .int (F 26), .int (F 27), .int (F 28), .ref 13] : List Value) := hq
    simp only [List.mem_cons, List.not_mem_nil, Value.ref.injEq, reduceCtorEq, or_false, false_or] at hq
    rcases hq with rfl | rfl | rfl | rfl | rfl | rfl | rfl | rfl | rfl | rfl | rfl | rfl | rfl <;> decide
  | 1, _ => exact trivial
  | 2, _ => exact trivial
  | 3, _ => exact trivial
  | 4, _ => exact trivial
  | 5, _ => exact trivial
  | 6, _ => exact trivial
  | 7, _ => exact trivial
  | 8, _ => exact trivial
  | 9, _ => exact trivial
  | 10, _ => exact trivial
  | 11, _ => exact trivial
  | 12, _ => exact trivial
  | 13, _ => exact trivial
/-- a call of the reference -/
theorem LW.cm {q : zMth} {idx k d : Nat} {As rest : List Value} (hG : lwAll p s m meth c b L xs dC dI dA locC locM) (hM : lwM q idx k 9) (hsel : Cond.selects (zRn 9) q.1 q.1 ∈ wsL_law) (hn : As.length = k) (hd : d ≤ 40) (hq : 14 + zwm q ≤ zB) (hAs : ∀ loc : Nat → Nat, As.map (zv loc) = As) (hrest : (rest.map fun v => v.category).sum ≤ 8) (hdg : decode code pc = .ok (.invokevirtual idx, 3)) (hc : cells + zwm q ≤ 600000 ∧ slots + zws q ≤ 7302250)
    (hm : MOk d q (.ref 0 :: As) (mW FM AM) (fun r w' => ∃ (z : Int32) (F' : Nat → Int32) (A' : Nat → Nat → Int32), r = some (.int z) ∧ w' = mW F' A' ∧ LW p l e s m below meth c b dC dI dA locC locM (pc + 3) n (.int z :: rest) FC AC F' A' (cells + zwm q) (slots + zws q))) : LW p l e s m below meth c b dC dI dA locC locM pc n (As.reverse ++ .ref (locM 0) :: rest) FC AC FM AM cells slots := by
  intro H locs hp
  refine lw_callV hG.1 hG.2.2.1 hp.swap hM hsel hn hd (by decide : 0 < 14) (ci := 9) (fs := _) rfl hq (hAs _) hrest rfl hdg hc hm (fun r w' loc' H' locs' hQ hloc hle hp' => ?_)
  obtain ⟨z, F', A', rfl, rfl, hk⟩ := hQ
  have hl : ∀ i, i < 14 → loc' i = locM i := fun i hi => hloc i (Or.inl hi)
  have ew : zw dA loc' (mW F' A') = zw dA locM (mW F' A') := zw_cong mW_bd hl
  obtain ⟨h1, h2, h3, h4, h5, h6⟩ := hp'.swap
  rw [ew] at h3 h4
  exact hk H' locs' ⟨h1, h2, h3, h4, fun i hi j hj => by rw [← hl j hj]; exact h5 i hi j hj, h6⟩
/-- both answers are the same -/
theorem LW.same {z : Int32} {off : Int} (hG : lwAll p s m meth c b L xs dC dI dA locC locM) (hd : decode code pc = .ok (.if_icmp .eq off, 3)) (ht : (pc : Int) + off = (1441 : Nat)) (h : LW p l e s m below meth c b dC dI dA locC locM 1441 n st FC AC FM AM cells slots) : LW p l e s m below meth c b dC dI dA locC locM pc n (.int z :: .int z :: st) FC AC FM AM cells slots := fun H locs hp => lv_icmp_eq hG.1.1 hG.1.2.1 hd ht (fun _ => h H locs hp) (fun q => absurd rfl q)
theorem LW.ret (hG : lwAll p s m meth c b L xs dC dI dA locC locM) (hd : decode code pc = .ok (.ireturn, 1)) (hc : cells ≤ 600000 ∧ slots ≤ 7302250) : LW p l e s m below meth c b dC dI dA locC locM pc n [.int 1] FC AC FM AM cells slots := fun H locs hp => va_forget (fun q hq => hp.2.2.2.2.2.2.2 q hq) (W.widen hc.1 hc.2 (lw_ret hG.1.1 hG.1.2.1 hG.2.2.2.1 hG.2.2.2.2.1 hd))
end ZLR
