/-! many instructions at once: zstp is the weakest precondition of one instruction, zrun of many (it halts at the places in cut) -/
def zgi (lv : List (Option Value)) (i : Nat) (P : Int32 → Prop) : Prop := match lv[i]? with
  | some (some (.int x)) => P x
  | _ => False
def zgr (lv : List (Option Value)) (i : Nat) (P : Nat → Prop) : Prop := match lv[i]? with
  | some (some (.ref x)) => P x
  | _ => False
/-- where a jump goes -/
def ztg (pc : Nat) (off : Int) (P : Nat → Prop) : Prop := 0 ≤ (pc : Int) + off ∧ P ((pc : Int) + off).toNat
def zs1 (st : List Value) (P : Int32 → List Value → Prop) : Prop := match st with
  | .int x :: st => P x st
  | _ => False
def zs2 (st : List Value) (P : Int32 → Int32 → List Value → Prop) : Prop := match st with
  | .int y :: .int x :: st => P x y st
  | _ => False
def zsr (st : List Value) (P : Nat → List Value → Prop) : Prop := match st with
  | .ref p :: st => P p st
  | _ => False
def zob (w : zWd) (p ci k : Nat) (P : Value → Prop) : Prop := p < w.1 ∧ match w.2 p with
  | .inr (cj, fs) => cj = ci ∧ (match fs[k]? with | some v => P v | none => False)
  | _ => False
def zpt (w : zWd) (p ci k : Nat) (v : Value) (P : zWd → Prop) : Prop := p < w.1 ∧ match w.2 p with
  | .inr (cj, fs) => cj = ci ∧ k < fs.length ∧ P (zup w p (.inr (ci, fs.set k v)))
  | _ => False
def zar (w : zWd) (p t : Nat) (P : Nat → (Nat → Int32) → Prop) : Prop := p < w.1 ∧ match w.2 p with
  | .inl (u, n, .inl f) => u = t ∧ P n f
  | _ => False
def zaq (w : zWd) (p t : Nat) (P : Nat → (Nat → Option Nat) → Prop) : Prop := p < w.1 ∧ match w.2 p with
  | .inl (u, n, .inr (.inr (.inr (.inr f)))) => u = t ∧ P n f
  | _ => False
def zcls (w : zWd) (p : Nat) : Nat := match w.2 p with
  | .inr (ci, _) => ci
  | _ => 99
def zbr (c : Jvm.ClassFile.Cond) (x y : Int32) : Prop := match c with
  | .eq => x = y
  | .ne => ¬ x = y
  | .lt => x < y
  | .ge => y ≤ x
  | .gt => y < x
  | .le => x ≤ y
def zif (c A B : Prop) : Prop := (c → A) ∧ (¬ c → B)
def zlen (i : Instr) : Nat := match i with
  | .iload _ | .aload _ | .istore _ | .bipush _ | .ldc _ => 2
  | .sipush _ | .iinc _ _ | .goto _ | .if_icmp _ _ | .ifCond _ _ | .getfield _ | .putfield _ | .invokevirtual _ | .invokestatic _ | .getstatic _ | .ldc_w _ => 3
  | _ => 1
/-- what comes behind a call: a name, so that simp doesn't walk on before the call has its answer -/
def zk (K : List Value → zWd → Prop) (rest : List Value) (r : Option Value) (w : zWd) : Prop := K (r.toList ++ rest) w
theorem zk_ap {K : List Value → zWd → Prop} {rest : List Value} {r : Option Value} {w : zWd} : zk K rest r w = K (r.toList ++ rest) w := rfl
/-- a call of an own method that makes nothing -/
def zcall (o d : Nat) (idx kind : Nat) (st : List Value) (w : zWd) (K : List Value → zWd → Prop) : Prop := match zML o idx with
  | some (M, n, k, ci) => k = kind ∧ n ≤ st.length ∧
    (if kind = 1 then ((st.drop n).map fun v => v.category).sum ≤ 8 ∧ MOk d M (st.take n).reverse w (zk K (st.drop n))
     else match st.drop n with
      | .ref b :: rest => b < w.1 ∧ zcls w b = ci ∧ (rest.map fun v => v.category).sum ≤ 8 ∧ MOk d M (.ref b :: (st.take n).reverse) w (zk K rest)
      | _ => False)
  | none => False
def zcpy (o idx : Nat) (st : List Value) (w : zWd) (K : List Value → zWd → Prop) : Prop := match st with
  | .int n :: .int dp :: .ref q :: .int sp :: .ref p :: st => zcpS o idx ∧ zar w p 0 (fun n0 f => zar w q 0 (fun n1 g => (¬ sp < 0 ∧ ¬ dp < 0 ∧ ¬ n < 0) ∧ sp.toNatClampNeg + n.toNatClampNeg ≤ n0 ∧ dp.toNatClampNeg + n.toNatClampNeg ≤ n1 ∧ (st.map fun v => v.category).sum ≤ 8 ∧ K st (zup w q (.inl (0, n1, .inl (va_cpy f g sp.toNatClampNeg dp.toNatClampNeg n.toNatClampNeg))))))
  | _ => False
def zstp (M : zMth) (d : Nat) (i : Instr) (pc : Nat) (lv : List (Option Value)) (st : List Value) (w : zWd) (rc rs : Nat) (K : Nat → List (Option Value) → List Value → zWd → Prop) (Q : Option Value → zWd → Prop) : Prop := match i with
  | .iload_n k => zgi lv (k : Nat) (fun x => K (pc + 1) lv (.int x :: st) w)
  | .iload k => zgi lv k (fun x => K (pc + 2) lv (.int x :: st) w)
  | .aload_n k => zgr lv (k : Nat) (fun x => K (pc + 1) lv (.ref x :: st) w)
  | .aload k => zgr lv k (fun x => K (pc + 2) lv (.ref x :: st) w)
  | .istore_n k => zs1 st (fun x st => (k : Nat) < lv.length ∧ K (pc + 1) (lv.set (k : Nat) (some (.int x))) st w)
  | .istore k => zs1 st (fun x st => k < lv.length ∧ K (pc + 2) (lv.set k (some (.int x))) st w)
  | .astore_n k => zsr st (fun x st => (k : Nat) < lv.length ∧ K (pc + 1) (lv.set (k : Nat) (some (.ref x))) st w)
  | .iinc k n => zgi lv k (fun x => K (pc + 3) (lv.set k (some (.int (x + Int32.ofInt n)))) st w)
  | .iconst n => K (pc + 1) lv (.int (Int32.ofInt n) :: st) w
  | .bipush n => (-128 ≤ n ∧ n < 128) ∧ K (pc + 2) lv (.int (Int32.ofInt n) :: st) w
  | .sipush n => (-32768 ≤ n ∧ n < 32768) ∧ K (pc + 3) lv (.int (Int32.ofInt n) :: st) w
  | .iadd => zs2 st (fun x y st => K (pc + 1) lv (.int (x + y) :: st) w)
  | .isub => zs2 st (fun x y st => K (pc + 1) lv (.int (x - y) :: st) w)
  | .imul => zs2 st (fun x y st => K (pc + 1) lv (.int (x * y) :: st) w)
  | .iand => zs2 st (fun x y st => K (pc + 1) lv (.int (x &&& y) :: st) w)
  | .idiv => zs2 st (fun x y st => ¬ y = 0 ∧ K (pc + 1) lv (.int (x / y) :: st) w)
  | .irem => zs2 st (fun x y st => ¬ y = 0 ∧ K (pc + 1) lv (.int (x - x / y * y) :: st) w)
  | .i2c => zs1 st (fun x st => K (pc + 1) lv (.int (x.toUInt32 % 65536).toInt32 :: st) w)
  | .dup => (match st with | v :: st => v.category = 1 ∧ K (pc + 1) lv (v :: v :: st) w | _ => False)
  | .dup2 => (match st with | v :: u :: st => (v.category = 1 ∧ u.category = 1) ∧ K (pc + 1) lv (v :: u :: v :: u :: st) w | _ => False)
  | .goto off => ztg pc off (fun t => K t lv st w)
  | .if_icmp c off => zs2 st (fun x y st => ztg pc off (fun t => zif (zbr c x y) (K t lv st w) (K (pc + 3) lv st w)))
  | .ifCond c off => zs1 st (fun x st => ztg pc off (fun t => zif (zbr c x 0) (K t lv st w) (K (pc + 3) lv st w)))
  | .tableswitch dflt lo hi offs => zs1 st (fun x st => zif (x.toInt < lo ∨ hi < x.toInt) (ztg pc dflt (fun t => K t lv st w)) (match offs.toList[(x.toInt - lo).toNat]? with | some off => ztg pc off (fun t => K t lv st w) | none => False))
  | .getfield idx => (match zF M.2.2.2.2.1 idx with | some (ci, k) => zsr st (fun p st => zob w p ci k (fun v => K (pc + 3) lv (v :: st) w)) | none => False)
  | .putfield idx => (match zF M.2.2.2.2.1 idx with | some (ci, k) => (match st with | v :: .ref p :: st => zfit (zFt ci k) v ∧ ((zFd ci k).2.2.2 = false ∨ (M.1.name = "<init>" ∧ (zFd ci k).1 = zRn M.2.2.2.2.1)) ∧ zpt w p ci k v (fun w' => K (pc + 3) lv st w') | _ => False) | none => False)
  | .iaload => (match st with | .int i :: .ref p :: st => zar w p 0 (fun n f => vp_in i n ∧ K (pc + 1) lv (.int (f i.toNatClampNeg) :: st) w) | _ => False)
  | .getstatic idx => (match zGs M.2.2.2.2.1 idx with | some j => K (pc + 3) lv (.ref (zB + j) :: st) w | none => False)
  | .ldc_w idx => (match zSt M.2.2.2.2.1 idx with | some j => K (pc + 3) lv (.ref (zS + j) :: st) w | none => False)
  | .ldc idx => (match zSt M.2.2.2.2.1 idx with | some j => K (pc + 2) lv (.ref (zS + j) :: st) w | none => False)
  | .baload => (match st with | .int i :: .ref p :: st => zar w p 1 (fun n f => vp_in i n ∧ K (pc + 1) lv (.int (f i.toNatClampNeg) :: st) w) | _ => False)
  | .caload => (match st with | .int i :: .ref p :: st => zar w p 2 (fun n f => vp_in i n ∧ K (pc + 1) lv (.int (f i.toNatClampNeg) :: st) w) | _ => False)
  | .aaload => (match st with | .int i :: .ref p :: st => zaq w p 3 (fun n f => vp_in i n ∧ (match f i.toNatClampNeg with | some q => K (pc + 1) lv (.ref q :: st) w | none => False)) | _ => False)
  | .iastore => (match st with | .int x :: .int i :: .ref p :: st => zar w p 0 (fun n f => vp_in i n ∧ K (pc + 1) lv st (zup w p (.inl (0, n, .inl (upd f i.toNatClampNeg x))))) | _ => False)
  | .bastore => (match st with | .int x :: .int i :: .ref p :: st => zar w p 1 (fun n f => vp_in i n ∧ K (pc + 1) lv st (zup w p (.inl (1, n, .inl (upd f i.toNatClampNeg (vp_nar .boolean x)))))) | _ => False)
  | .castore => (match st with | .int x :: .int i :: .ref p :: st => zar w p 2 (fun n f => vp_in i n ∧ K (pc + 1) lv st (zup w p (.inl (2, n, .inl (upd f i.toNatClampNeg (vp_nar .char x)))))) | _ => False)
  | .invokevirtual idx => zcall M.2.2.2.2.1 d idx 0 st w (K (pc + 3) lv)
  | .invokestatic idx => (match zBI M.2.2.2.2.1 idx with
    | 1 => zcpy M.2.2.2.2.1 idx st w (K (pc + 3) lv)
    | 2 => zs2 st (fun x y st => (M.2.2.2.2.1 = 9 ∧ idx = 138) ∧ (st.map fun v => v.category).sum ≤ 8 ∧ K (pc + 3) lv (.int (if x < y then y else x) :: st) w)
    | 3 => zs2 st (fun x y st => (M.2.2.2.2.1 = 9 ∧ idx = 79) ∧ (st.map fun v => v.category).sum ≤ 8 ∧ K (pc + 3) lv (.int (if y < x then y else x) :: st) w)
    | _ => zcall M.2.2.2.2.1 d idx 1 st w (K (pc + 3) lv))
  | .ireturn => (match st, M.2.2.2.1 with | [.int x], some ty => narrow ty (.int x) = .int x ∧ Q (some (.int x)) w | _, _ => False)
  | .return_ => (match st, M.2.2.2.1 with | [], none => Q none w | _, _ => False)
  | .areturn => (match st, M.2.2.2.1 with | [.ref x], some (.object _) => Q (some (.ref x)) w | _, _ => False)
  | _ => False
theorem zI8 {n : Int} (h : -128 ≤ n ∧ n < 128) : (Int8.ofInt n).toInt32 = Int32.ofInt n := by
  apply Int32.toInt_inj.mp
  rw [Int8.toInt_toInt32, Int8.toInt_ofInt, Int32.toInt_ofInt]
  simp only [Int.bmod, Int8.size, Int32.size]
  omega
theorem zI16 {n : Int} (h : -32768 ≤ n ∧ n < 32768) : (Int16.ofInt n).toInt32 = Int32.ofInt n := by
  apply Int32.toInt_inj.mp
  rw [Int16.toInt_toInt32, Int16.toInt_ofInt, Int32.toInt_ofInt]
  simp only [Int.bmod, Int16.size, Int32.size]
  omega
theorem ztg.use {pc : Nat} {off : Int} {P : Nat → Prop} (h : ztg pc off P) : ∃ t : Nat, (pc : Int) + off = (t : Int) ∧ P t :=
  ⟨((pc : Int) + off).toNat, (Int.toNat_of_nonneg h.1).symm, h.2⟩
theorem zif.ite {c A B : Prop} {inst : Decidable c} (h : zif c A B) : if c then A else B := by
  split
  · rename_i q; exact h.1 q
  · rename_i q; exact h.2 q
theorem zgi.use {lv : List (Option Value)} {i : Nat} {P : Int32 → Prop} (h : zgi lv i P) : ∃ x, lv[i]? = some (some (.int x)) ∧ P x := by
  unfold zgi at h
  split at h
  · rename_i x hx; exact ⟨x, hx, h⟩
  · exact h.elim
theorem zgr.use {lv : List (Option Value)} {i : Nat} {P : Nat → Prop} (h : zgr lv i P) : ∃ x, lv[i]? = some (some (.ref x)) ∧ P x := by
  unfold zgr at h
  split at h
  · rename_i x hx; exact ⟨x, hx, h⟩
  · exact h.elim
theorem zs1.use {st : List Value} {P : Int32 → List Value → Prop} (h : zs1 st P) : ∃ x st', st = .int x :: st' ∧ P x st' := by
  unfold zs1 at h
  split at h
  · exact ⟨_, _, rfl, h⟩
  · exact h.elim
theorem zs2.use {st : List Value} {P : Int32 → Int32 → List Value → Prop} (h : zs2 st P) : ∃ x y st', st = .int y :: .int x :: st' ∧ P x y st' := by
  unfold zs2 at h
  split at h
  · exact ⟨_, _, _, rfl, h⟩
  · exact h.elim
theorem zsr.use {st : List Value} {P : Nat → List Value → Prop} (h : zsr st P) : ∃ x st', st = .ref x :: st' ∧ P x st' := by
  unfold zsr at h
  split at h
  · exact ⟨_, _, rfl, h⟩
  · exact h.elim
theorem zob.use {w : zWd} {p ci k : Nat} {P : Value → Prop} (h : zob w p ci k P) : ∃ fs v, p < w.1 ∧ w.2 p = .inr (ci, fs) ∧ fs[k]? = some v ∧ P v := by
  obtain ⟨hp, h⟩ := h
  split at h
  · rename_i cj fs hw
    obtain ⟨rfl, h⟩ := h
    split at h
    · rename_i v hv; exact ⟨fs, v, hp, hw, hv, h⟩
    · exact h.elim
  · exact h.elim
theorem zpt.use {w : zWd} {p ci k : Nat} {v : Value} {P : zWd → Prop} (h : zpt w p ci k v P) : ∃ fs, p < w.1 ∧ w.2 p = .inr (ci, fs) ∧ k < fs.length ∧ P (zup w p (.inr (ci, fs.set k v))) := by
  obtain ⟨hp, h⟩ := h
  split at h
  · rename_i cj fs hw
    obtain ⟨rfl, hk, h⟩ := h
    exact ⟨fs, hp, hw, hk, h⟩
  · exact h.elim
theorem zar.use {w : zWd} {p t : Nat} {P : Nat → (Nat → Int32) → Prop} (h : zar w p t P) : ∃ n f, p < w.1 ∧ w.2 p = .inl (t, n, .inl f) ∧ P n f := by
  obtain ⟨hp, h⟩ := h
  split at h
  · rename_i u n f hw
    obtain ⟨rfl, h⟩ := h
    exact ⟨n, f, hp, hw, h⟩
  · exact h.elim
theorem zaq.use {w : zWd} {p t : Nat} {P : Nat → (Nat → Option Nat) → Prop} (h : zaq w p t P) : ∃ n f, p < w.1 ∧ w.2 p = .inl (t, n, .inr (.inr (.inr (.inr f)))) ∧ P n f := by
  obtain ⟨hp, h⟩ := h
  split at h
  · rename_i u n f hw
    obtain ⟨rfl, h⟩ := h
    exact ⟨n, f, hp, hw, h⟩
  · exact h.elim
section ZR
variable {M : zMth} {d w0n pc : Nat} {lv : List (Option Value)} {st : List Value} {w : zWd} {rc rs : Nat} {Q : Option Value → zWd → Prop}
theorem Go.icmp {c : Jvm.ClassFile.Cond} {x y : Int32} {off : Int} {t : Nat} (hd : decode M.2.1 pc = .ok (.if_icmp c off, 3)) (ht : (pc : Int) + off = (t : Int)) (g1 : zbr c x y → Go M d w0n t lv st w rc rs Q) (g2 : ¬ zbr c x y → Go M d w0n (pc + 3) lv st w rc rs Q) : Go M d w0n pc lv (.int y :: .int x :: st) w rc rs Q := by
  cases c
  · exact Go.icmp_eq hd ht (zif.ite ⟨g1, g2⟩)
  · exact Go.icmp_ne hd ht (zif.ite ⟨g1, g2⟩)
  · exact Go.icmp_lt hd ht (zif.ite ⟨g1, g2⟩)
  · exact Go.icmp_ge hd ht (zif.ite ⟨g1, g2⟩)
  · exact Go.icmp_gt hd ht (zif.ite ⟨g1, g2⟩)
  · exact Go.icmp_le hd ht (zif.ite ⟨g1, g2⟩)
theorem Go.ifc {c : Jvm.ClassFile.Cond} {x : Int32} {off : Int} {t : Nat} (hd : decode M.2.1 pc = .ok (.ifCond c off, 3)) (ht : (pc : Int) + off = (t : Int)) (g1 : zbr c x 0 → Go M d w0n t lv st w rc rs Q) (g2 : ¬ zbr c x 0 → Go M d w0n (pc + 3) lv st w rc rs Q) : Go M d w0n pc lv (.int x :: st) w rc rs Q := by
  cases c
  · exact Go.if_eq hd ht (zif.ite ⟨g1, g2⟩)
  · exact Go.if_ne hd ht (zif.ite ⟨g1, g2⟩)
  · exact Go.if_lt hd ht (zif.ite ⟨g1, g2⟩)
  · exact Go.if_ge hd ht (zif.ite ⟨g1, g2⟩)
  · exact Go.if_gt hd ht (zif.ite ⟨g1, g2⟩)
  · exact Go.if_le hd ht (zif.ite ⟨g1, g2⟩)
theorem zsum_le {l1 l2 : List Value} (h : ((l1 ++ l2).map fun v => v.category).sum ≤ 8) : (l2.map fun v => v.category).sum ≤ 8 := by
  rw [List.map_append, List.sum_append] at h
  omega
theorem zcall.use {idx kind : Nat} {K : List Value → zWd → Prop} (hk : kind = 0 ∧ decode M.2.1 pc = .ok (.invokevirtual idx, 3) ∨ kind = 1 ∧ decode M.2.1 pc = .ok (.invokestatic idx, 3)) (h : zcall M.2.2.2.2.1 d idx kind st w K)
    (hK : ∀ st w, K st w → Go M (d + 1) w0n (pc + 3) lv st w rc rs Q) : Go M (d + 1) w0n pc lv st w rc rs Q := by
  unfold zcall at h
  split at h
  · rename_i M2 n k ci hl
    obtain ⟨rfl, h2, h6⟩ := h
    have hz : zwm M2 = 0 ∧ zws M2 = 0 := (zML_ok hl).2.2.2.2.2.2 (by rcases hk with ⟨rfl, -⟩ | ⟨rfl, -⟩ <;> exact Nat.le_of_ble_eq_true rfl)
    obtain ⟨h4, h5⟩ := hz
    have e0 : ∀ n, zfrL n (zwm M2) (zlvs lv) := fun n => Or.inl h4
    have e1 : ∀ n l, zfrL n (zwm M2) l := fun n l => Or.inl h4
    have hst : st = ((st.take n).reverse).reverse ++ st.drop n := by rw [List.reverse_reverse, List.take_append_drop]
    rcases hk with ⟨rfl, hd⟩ | ⟨rfl, hd⟩
    · rw [if_neg (by decide)] at h6
      split at h6
      · rename_i b rest hdr
        obtain ⟨b1, b2, b4, b5⟩ := h6
        have hcell : ∃ fs, w.2 b = .inr (ci, fs) := by
          have c9 : ci < 10 := (zML_ok hl).2.2.2.2.1
          unfold zcls at b2
          split at b2
          · rename_i cj fs hw; exact ⟨fs, by rw [hw, b2]⟩
          · omega
        obtain ⟨fs, hw⟩ := hcell
        rw [hst, hdr]
        refine Go.callV hd hl (Or.inl rfl) (by rw [List.length_reverse, List.length_take]; exact Nat.min_eq_left h2) b1 hw rfl b4 (by show zwm M2 ≤ rc; omega) (by show zws M2 ≤ rs; omega) (e0 _) (e1 _ _) (b5.mono fun r w' hh => ?_)
        show Go M (d + 1) w0n (pc + 3) lv (r.toList ++ rest) w' (rc - zwm M2) (rs - zws M2) Q
        rw [h4, h5]
        exact hK _ _ hh
      · exact h6.elim
    · rw [if_pos rfl] at h6
      rw [hst]
      refine Go.callS hd hl rfl (by rw [List.length_reverse, List.length_take]; exact Nat.min_eq_left h2) h6.1 (by show zwm M2 ≤ rc; omega) (by show zws M2 ≤ rs; omega) (e0 _) (e1 _ _) (h6.2.mono fun r w' hh => ?_)
      show Go M (d + 1) w0n (pc + 3) lv (r.toList ++ st.drop n) w' (rc - zwm M2) (rs - zws M2) Q
      rw [h4, h5]
      exact hK _ _ hh
  · exact h.elim
def zlok (i : Instr) (len : Nat) : Prop := match i with
  | .tableswitch _ _ _ _ => True
  | _ => len = zlen i
theorem zstp_ok {i : Instr} {len : Nat} {K : Nat → List (Option Value) → List Value → zWd → Prop} (hd : decode M.2.1 pc = .ok (i, len)) (hlen : zlok i len) (hK : ∀ pc lv st w, K pc lv st w → Go M (d + 1) w0n pc lv st w rc rs Q)
    (h : zstp M d i pc lv st w rc rs K Q) : Go M (d + 1) w0n pc lv st w rc rs Q := by
  cases i <;> first | exact absurd h id | skip
  case iload_n k => subst hlen; obtain ⟨x, hx, h⟩ := zgi.use h; exact Go.iload_n hd hx (hK _ _ _ _ h)
  case iload k => subst hlen; obtain ⟨x, hx, h⟩ := zgi.use h; exact Go.iload hd hx (hK _ _ _ _ h)
  case aload_n k => subst hlen; obtain ⟨x, hx, h⟩ := zgr.use h; exact Go.aload_n hd hx (hK _ _ _ _ h)
  case aload k => subst hlen; obtain ⟨x, hx, h⟩ := zgr.use h; exact Go.aload hd hx (hK _ _ _ _ h)
  case istore_n k => subst hlen; obtain ⟨x, st', rfl, h1, h⟩ := zs1.use h; exact Go.istore_n hd h1 (hK _ _ _ _ h)
  case istore k => subst hlen; obtain ⟨x, st', rfl, h1, h⟩ := zs1.use h; exact Go.istore hd h1 (hK _ _ _ _ h)
  case astore_n k => subst hlen; obtain ⟨x, st', rfl, h1, h⟩ := zsr.use h; exact Go.astore_n hd h1 (hK _ _ _ _ h)
  case iinc k n => subst hlen; obtain ⟨x, hx, h⟩ := zgi.use h; exact Go.iinc hd hx (hK _ _ _ _ h)
  case iconst n => subst hlen; exact Go.iconst hd (hK _ _ _ _ h)
  case bipush n => subst hlen; exact Go.bipush hd (by rw [zI8 h.1]; exact hK _ _ _ _ h.2)
  case sipush n => subst hlen; exact Go.sipush hd (by rw [zI16 h.1]; exact hK _ _ _ _ h.2)
  case iadd => subst hlen; obtain ⟨x, y, st', rfl, h⟩ := zs2.use h; exact Go.iadd hd (hK _ _ _ _ h)
  case isub => subst hlen; obtain ⟨x, y, st', rfl, h⟩ := zs2.use h; exact Go.isub hd (hK _ _ _ _ h)
  case imul => subst hlen; obtain ⟨x, y, st', rfl, h⟩ := zs2.use h; exact Go.imul hd (hK _ _ _ _ h)
  case iand => subst hlen; obtain ⟨x, y, st', rfl, h⟩ := zs2.use h; exact Go.iand hd (hK _ _ _ _ h)
  case idiv => subst hlen; obtain ⟨x, y, st', rfl, h1, h⟩ := zs2.use h; exact Go.idiv hd h1 (hK _ _ _ _ h)
  case irem => subst hlen; obtain ⟨x, y, st', rfl, h1, h⟩ := zs2.use h; exact Go.irem hd h1 (hK _ _ _ _ h)
  case i2c => subst hlen; obtain ⟨x, st', rfl, h⟩ := zs1.use h; exact Go.i2c hd (hK _ _ _ _ h)
  case dup =>
    subst hlen
    simp only [zstp] at h
    split at h
    · exact Go.dup hd h.1 (hK _ _ _ _ h.2)
    · exact h.elim
  case dup2 =>
    subst hlen
    simp only [zstp] at h
    split at h
    · exact Go.dup2 hd h.1.1 h.1.2 (hK _ _ _ _ h.2)
    · exact h.elim
  case goto off => subst hlen; simp only [zstp] at h; obtain ⟨t, ht, h⟩ := ztg.use h; exact Go.goto hd ht (hK _ _ _ _ h)
  case if_icmp c off =>
    subst hlen
    obtain ⟨x, y, st', rfl, h⟩ := zs2.use h
    have h : ztg pc off (fun t => zif (zbr c x y) (K t lv st' w) (K (pc + 3) lv st' w)) := h
    obtain ⟨t, ht, h⟩ := ztg.use h
    exact Go.icmp hd ht (fun q => hK _ _ _ _ (h.1 q)) (fun q => hK _ _ _ _ (h.2 q))
  case ifCond c off =>
    subst hlen
    obtain ⟨x, st', rfl, h⟩ := zs1.use h
    have h : ztg pc off (fun t => zif (zbr c x 0) (K t lv st' w) (K (pc + 3) lv st' w)) := h
    obtain ⟨t, ht, h⟩ := ztg.use h
    exact Go.ifc hd ht (fun q => hK _ _ _ _ (h.1 q)) (fun q => hK _ _ _ _ (h.2 q))
  case tableswitch dflt lo hi offs =>
    obtain ⟨x, st', rfl, h⟩ := zs1.use h
    by_cases hc : x.toInt < lo ∨ hi < x.toInt
    · obtain ⟨t, ht, h⟩ := ztg.use (h.1 hc)
      exact Go.tableOut hd hc ht (hK _ _ _ _ h)
    · have h := h.2 hc
      split at h
      · rename_i off ho
        obtain ⟨t, ht, h⟩ := ztg.use h
        rw [Array.getElem?_toList] at ho
        exact Go.tableIn hd (fun q => hc (Or.inl q)) (fun q => hc (Or.inr q)) ho ht (hK _ _ _ _ h)
      · exact h.elim
  case getfield idx =>
    subst hlen
    simp only [zstp] at h
    split at h
    · rename_i ci k hf
      obtain ⟨p, st', rfl, h⟩ := zsr.use h
      obtain ⟨fs, v, hp, hw, hv, h⟩ := zob.use h
      exact Go.getf hd hf hp hw hv (hK _ _ _ _ h)
    · exact h.elim
  case putfield idx =>
    subst hlen
    simp only [zstp] at h
    split at h
    · rename_i ci k hf
      split at h
      · obtain ⟨h1, h2, h⟩ := h
        obtain ⟨fs, hp, hw, hk, h⟩ := zpt.use h
        exact Go.putf hd hf hp hw hk h1 h2 (hK _ _ _ _ h)
      · exact h.elim
    · exact h.elim
  case iaload =>
    subst hlen
    simp only [zstp] at h
    split at h
    · obtain ⟨n, f, hp, hw, hi, h⟩ := zar.use h
      exact Go.iald hd hp hw hi (hK _ _ _ _ h)
    · exact h.elim
  case getstatic idx =>
    subst hlen
    simp only [zstp] at h
    split at h
    · rename_i j hj
      exact Go.gets hd hj (hK _ _ _ _ h)
    · exact h.elim
  case ldc_w idx =>
    subst hlen
    simp only [zstp] at h
    split at h
    · rename_i j hj
      exact Go.ldcw hd hj (hK _ _ _ _ h)
    · exact h.elim
  case ldc idx =>
    subst hlen
    simp only [zstp] at h
    split at h
    · rename_i j hj
      exact Go.ldcs hd hj (hK _ _ _ _ h)
    · exact h.elim
  case baload =>
    subst hlen
    simp only [zstp] at h
    split at h
    · obtain ⟨n, f, hp, hw, hi, h⟩ := zar.use h
      exact Go.zald hd hp hw hi (hK _ _ _ _ h)
    · exact h.elim
  case caload =>
    subst hlen
    simp only [zstp] at h
    split at h
    · obtain ⟨n, f, hp, hw, hi, h⟩ := zar.use h
      exact Go.cald hd hp hw hi (hK _ _ _ _ h)
    · exact h.elim
  case aaload =>
    subst hlen
    simp only [zstp] at h
    split at h
    · obtain ⟨n, f, hp, hw, hi, h⟩ := zaq.use h
      split at h
      · rename_i q hq
        exact Go.aldI hd hp hw hi hq (hK _ _ _ _ h)
      · exact h.elim
    · exact h.elim
  case iastore =>
    subst hlen
    simp only [zstp] at h
    split at h
    · obtain ⟨n, f, hp, hw, hi, h⟩ := zar.use h
      exact Go.iast hd hp hw hi (hK _ _ _ _ h)
    · exact h.elim
  case bastore =>
    subst hlen
    simp only [zstp] at h
    split at h
    · obtain ⟨n, f, hp, hw, hi, h⟩ := zar.use h
      exact Go.zast hd hp hw hi (hK _ _ _ _ h)
    · exact h.elim
  case castore =>
    subst hlen
    simp only [zstp] at h
    split at h
    · obtain ⟨n, f, hp, hw, hi, h⟩ := zar.use h
      exact Go.cast hd hp hw hi (hK _ _ _ _ h)
    · exact h.elim
  case invokevirtual idx => subst hlen; exact zcall.use (Or.inl ⟨rfl, hd⟩) h (fun st w q => hK _ _ _ _ q)
  case invokestatic idx =>
    subst hlen
    simp only [zstp] at h
    split at h
    · unfold zcpy at h
      split at h
      · obtain ⟨hl, h⟩ := h
        obtain ⟨n0, f, hp, hwp, h⟩ := zar.use h
        obtain ⟨n1, g, hq, hwq, ⟨h1, h2, h3⟩, h4, h5, h6, h⟩ := zar.use h
        exact Go.copy hd hl hp hwp hq hwq h1 h2 h3 h4 h5 h6 (hK _ _ _ _ h)
      · exact h.elim
    · obtain ⟨x, y, st', rfl, ⟨h1, rfl⟩, h2, h⟩ := zs2.use h
      exact Go.mmax hd h1 h2 (hK _ _ _ _ h)
    · obtain ⟨x, y, st', rfl, ⟨h1, rfl⟩, h2, h⟩ := zs2.use h
      exact Go.mmin hd h1 h2 (hK _ _ _ _ h)
    · exact zcall.use (Or.inr ⟨rfl, hd⟩) h (fun st w q => hK _ _ _ _ q)
  case ireturn =>
    subst hlen
    simp only [zstp] at h
    split at h
    · rename_i ty hr
      exact Go.give (Nat.zero_le _) (Nat.zero_le _) (Go.iret hd hr h.1 h.2 ⟨rfl, rfl⟩)
    · exact h.elim
  case return_ =>
    subst hlen
    simp only [zstp] at h
    split at h
    · rename_i hr
      exact Go.give (Nat.zero_le _) (Nat.zero_le _) (Go.vret hd hr h ⟨rfl, rfl⟩)
    · exact h.elim
  case areturn =>
    subst hlen
    simp only [zstp] at h
    split at h
    · rename_i hr
      exact Go.give (Nat.zero_le _) (Nat.zero_le _) (Go.aret hd hr h ⟨rfl, rfl⟩)
    · exact h.elim
/-- at most n instructions, stopping at the places in cut -/
def zrun (M : zMth) (d w0n : Nat) (cut : List Nat) (rc rs : Nat) (Q : Option Value → zWd → Prop) : Nat → Nat → List (Option Value) → List Value → zWd → Prop
  | 0, pc, lv, st, w => Go M (d + 1) w0n pc lv st w rc rs Q
  | n + 1, pc, lv, st, w => if pc ∈ cut then Go M (d + 1) w0n pc lv st w rc rs Q else match decode M.2.1 pc with
    | .ok (i, len) => zlok i len ∧ zstp M d i pc lv st w rc rs (zrun M d w0n cut rc rs Q n) Q
    | .error _ => Go M (d + 1) w0n pc lv st w rc rs Q
theorem zrun_ok {cut : List Nat} : ∀ (n pc : Nat) (lv : List (Option Value)) (st : List Value) (w : zWd), zrun M d w0n cut rc rs Q n pc lv st w → Go M (d + 1) w0n pc lv st w rc rs Q := by
  intro n
  induction n with
  | zero => intro pc lv st w h; exact h
  | succ n ih =>
    intro pc lv st w h
    unfold zrun at h
    split at h
    · exact h
    split at h
    · rename_i i len hd
      exact zstp_ok hd h.1 (fun pc lv st w q => ih _ _ _ _ q) h.2
    · exact h
/-- the first instruction, also at a place in cut -/
theorem zgo {cut : List Nat} (n : Nat) {i : Instr} {len : Nat} (hd : decode M.2.1 pc = .ok (i, len)) (hl : zlok i len) (h : zstp M d i pc lv st w rc rs (zrun M d w0n cut rc rs Q n) Q) : Go M (d + 1) w0n pc lv st w rc rs Q :=
  zstp_ok hd hl (fun pc lv st w q => zrun_ok _ _ _ _ _ q) h
theorem zrun_at {i : Instr} {len pc : Nat} (hd : decode M.2.1 pc = .ok (i, len)) (hl : zlok i len) {cut : List Nat} (hc : pc ∉ cut) {n : Nat} {lv : List (Option Value)} {st : List Value} {w : zWd} :
    zrun M d w0n cut rc rs Q (n + 1) pc lv st w = zstp M d i pc lv st w rc rs (zrun M d w0n cut rc rs Q n) Q := by
  rw [zrun, if_neg hc, hd]
  exact propext ⟨fun h => h.2, fun h => ⟨hl, h⟩⟩
theorem zrun_ct {cut : List Nat} {pc : Nat} (hc : pc ∈ cut) {n : Nat} {lv : List (Option Value)} {st : List Value} {w : zWd} : zrun M d w0n cut rc rs Q n pc lv st w = Go M (d + 1) w0n pc lv st w rc rs Q := by
  cases n with
  | zero => rfl
  | succ n => rw [zrun, if_pos hc]
theorem zcpS_9 : zcpS 9 53 = True := eq_true (Or.inr (Or.inl ⟨rfl, rfl⟩))
theorem zcpS_3 : zcpS 3 50 = True := eq_true (Or.inl ⟨rfl, rfl⟩)
theorem zcpS_7 : zcpS 7 91 = True := eq_true (Or.inr (Or.inr ⟨rfl, rfl⟩))
theorem zf0 : ((0 : Fin 4) : Nat) = 0 := rfl
theorem zf1 : ((1 : Fin 4) : Nat) = 1 := rfl
theorem zf2 : ((2 : Fin 4) : Nat) = 2 := rfl
theorem zf3 : ((3 : Fin 4) : Nat) = 3 := rfl
end ZR
