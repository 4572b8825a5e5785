/-! machine ints out of whole numbers -/
theorem zi_toInt {n : Int} (h : -2147483648 ≤ n ∧ n < 2147483648) : (Int32.ofInt n).toInt = n := by
  rw [Int32.toInt_ofInt]
  simp only [Int.bmod, Int32.size]
  omega
theorem zi_of (x : Int32) : ∃ n : Int, (-2147483648 ≤ n ∧ n < 2147483648) ∧ x = Int32.ofInt n := by
  refine ⟨x.toInt, ⟨x.le_toInt, x.toInt_lt⟩, ?_⟩
  rw [Int32.ofInt_toInt]
theorem zi_add (a b : Int) : Int32.ofInt a + Int32.ofInt b = Int32.ofInt (a + b) := (Int32.ofInt_add ..).symm
theorem zi_sub (a b : Int) : Int32.ofInt a - Int32.ofInt b = Int32.ofInt (a - b) := (Int32.ofInt_sub ..).symm
theorem zi_mul (a b : Int) : Int32.ofInt a * Int32.ofInt b = Int32.ofInt (a * b) := (Int32.ofInt_mul ..).symm
theorem zi_eq {a b : Int} (ha : -2147483648 ≤ a ∧ a < 2147483648) (hb : -2147483648 ≤ b ∧ b < 2147483648) : (Int32.ofInt a = Int32.ofInt b) = (a = b) := by
  apply propext
  constructor
  · intro h
    have := congrArg Int32.toInt h
    rwa [zi_toInt ha, zi_toInt hb] at this
  · intro h; rw [h]
theorem zi_lt {a b : Int} (ha : -2147483648 ≤ a ∧ a < 2147483648) (hb : -2147483648 ≤ b ∧ b < 2147483648) : (Int32.ofInt a < Int32.ofInt b) = (a < b) := by
  apply propext
  rw [Int32.lt_iff_toInt_lt, zi_toInt ha, zi_toInt hb]
theorem zi_le {a b : Int} (ha : -2147483648 ≤ a ∧ a < 2147483648) (hb : -2147483648 ≤ b ∧ b < 2147483648) : (Int32.ofInt a ≤ Int32.ofInt b) = (a ≤ b) := by
  apply propext
  rw [Int32.le_iff_toInt_le, zi_toInt ha, zi_toInt hb]
theorem zi_0 : (0 : Int32) = Int32.ofInt 0 := rfl
theorem zi_clamp {a : Int} (h : 0 ≤ a ∧ a < 2147483648) : (Int32.ofInt a).toNatClampNeg = a.toNat := by
  rw [← Int32.toNat_toInt, zi_toInt (by omega)]
theorem zi_in {a : Int} {n : Nat} (ha : -2147483648 ≤ a ∧ a < 2147483648) (hn : n < 2147483648) : vp_in (Int32.ofInt a) n = (0 ≤ a ∧ a < n) := by
  apply propext
  rw [vp_in_iff, zi_toInt ha]
theorem zbr_eq {a b : Int} (ha : -2147483648 ≤ a ∧ a < 2147483648) (hb : -2147483648 ≤ b ∧ b < 2147483648) : zbr .eq (Int32.ofInt a) (Int32.ofInt b) = (a = b) := zi_eq ha hb
theorem zbr_ne {a b : Int} (ha : -2147483648 ≤ a ∧ a < 2147483648) (hb : -2147483648 ≤ b ∧ b < 2147483648) : zbr .ne (Int32.ofInt a) (Int32.ofInt b) = (¬ a = b) := congrArg Not (zi_eq ha hb)
theorem zbr_lt {a b : Int} (ha : -2147483648 ≤ a ∧ a < 2147483648) (hb : -2147483648 ≤ b ∧ b < 2147483648) : zbr .lt (Int32.ofInt a) (Int32.ofInt b) = (a < b) := zi_lt ha hb
theorem zbr_ge {a b : Int} (ha : -2147483648 ≤ a ∧ a < 2147483648) (hb : -2147483648 ≤ b ∧ b < 2147483648) : zbr .ge (Int32.ofInt a) (Int32.ofInt b) = (b ≤ a) := zi_le hb ha
theorem zbr_gt {a b : Int} (ha : -2147483648 ≤ a ∧ a < 2147483648) (hb : -2147483648 ≤ b ∧ b < 2147483648) : zbr .gt (Int32.ofInt a) (Int32.ofInt b) = (b < a) := zi_lt hb ha
theorem zbr_le {a b : Int} (ha : -2147483648 ≤ a ∧ a < 2147483648) (hb : -2147483648 ≤ b ∧ b < 2147483648) : zbr .le (Int32.ofInt a) (Int32.ofInt b) = (a ≤ b) := zi_le ha hb
theorem zi_div {a b : Int} (ha : 0 ≤ a ∧ a < 2147483648) (hb : 0 < b ∧ b < 2147483648) : Int32.ofInt a / Int32.ofInt b = Int32.ofInt (a / b) := by
  apply Int32.toInt_inj.mp
  have h1 : 0 ≤ a / b := Int.ediv_nonneg ha.1 (by omega)
  have h2 : a / b ≤ a := Int.ediv_le_self b ha.1
  rw [Int32.toInt_div, zi_toInt (by omega), zi_toInt (by omega), zi_toInt (by omega), Int.tdiv_eq_ediv_of_nonneg ha.1]
  simp only [Int.bmod]
  omega
theorem zi_ne0 {b : Int} (hb : 0 < b ∧ b < 2147483648) : (Int32.ofInt b = Int32.ofInt 0) = False := by
  rw [zi_eq (by omega) (by omega)]
  exact eq_false (by omega)
/-- a truth value -/
def zb (c : Bool) : Int := if c then 1 else 0
theorem zb_r (c : Bool) : -2147483648 ≤ zb c ∧ zb c < 2147483648 := by cases c <;> decide
theorem zb_0 (c : Bool) : (zb c = 0) = (c = false) := by cases c <;> decide
theorem zb_1 (c : Bool) : (zb c = 1) = (c = true) := by cases c <;> decide
theorem zb_t : zb true = 1 := rfl
theorem zb_f : zb false = 0 := rfl
theorem zb_nar (c : Bool) : narrow .boolean (.int (Int32.ofInt (zb c))) = .int (Int32.ofInt (zb c)) := by cases c <;> decide
theorem znar_int (x : Int32) : narrow .int (.int x) = .int x := rfl
theorem znar_b0 : narrow .boolean (.int (Int32.ofInt 0)) = .int (Int32.ofInt 0) := by decide
theorem znar_b1 : narrow .boolean (.int (Int32.ofInt 1)) = .int (Int32.ofInt 1) := by decide
theorem zfit_int (x : Int32) : zfit .int (.int x) = True := eq_true ⟨rfl, rfl⟩
theorem zfit_b0 : zfit .boolean (.int (Int32.ofInt 0)) = True := eq_true ⟨by decide, by decide⟩
theorem zfit_b1 : zfit .boolean (.int (Int32.ofInt 1)) = True := eq_true ⟨by decide, by decide⟩
theorem zfit_b (c : Bool) : zfit .boolean (.int (Int32.ofInt (zb c))) = True := by cases c <;> exact eq_true ⟨by decide, by decide⟩
theorem zvup_s {α : Type} {f : Nat → α} {k : Nat} {v : α} : va_up f k v k = v := if_pos rfl
theorem zvup_n {α : Type} {f : Nat → α} {k j : Nat} {v : α} (h : j ≠ k) : va_up f k v j = f j := if_neg h
theorem zup_s {f : Nat → Int32} {k : Nat} {x : Int32} : upd f k x k = x := if_pos rfl
theorem zup_n {f : Nat → Int32} {k j : Nat} {x : Int32} (h : j ≠ k) : upd f k x j = f j := if_neg h
theorem zvup_vup {α : Type} {f : Nat → α} {k : Nat} {u v : α} : va_up (va_up f k u) k v = va_up f k v := by
  funext j
  by_cases h : j = k <;> simp [va_up, h]
theorem zcut_t {c : Prop} {A B : Prop} {inst : Decidable c} (h : c) : (@ite Prop c inst A B) = A := if_pos h
theorem zcut_f {c : Prop} {A B : Prop} {inst : Decidable c} (h : ¬ c) : (@ite Prop c inst A B) = B := if_neg h
theorem zif_t {c A B : Prop} (h : c) : zif c A B = A := propext ⟨fun q => q.1 h, fun q => ⟨fun _ => q, fun n => absurd h n⟩⟩
theorem zif_f {c A B : Prop} (h : ¬ c) : zif c A B = B := propext ⟨fun q => q.2 h, fun q => ⟨fun n => absurd n h, fun _ => q⟩⟩
theorem zif_true {A B : Prop} : zif True A B = A := zif_t trivial
theorem zif_false {A B : Prop} : zif False A B = B := zif_f id
theorem zif_not {c A B : Prop} : zif (¬ c) A B = zif c B A := propext ⟨fun q => ⟨fun h => q.2 (fun n => n h), fun h => q.1 h⟩, fun q => ⟨fun h => q.2 h, fun h => q.1 (Classical.not_not.mp h)⟩⟩
theorem zi_int {a : Int} {n : Nat} (h : 0 ≤ a ∧ a < n) (hn : n < 2147483648) : vp_in (Int32.ofInt a) n = True := by
  rw [zi_in (by omega) hn]
  exact eq_true h
theorem zbz_eq {c : Bool} : zbr .eq (Int32.ofInt (zb c)) (Int32.ofInt 0) = (c = false) := by
  rw [zbr_eq (zb_r c) (by omega), zb_0]
theorem zbz_ne {c : Bool} : zbr .ne (Int32.ofInt (zb c)) (Int32.ofInt 0) = (c = true) := by
  rw [zbr_ne (zb_r c) (by omega), zb_0]
  cases c <;> simp
theorem zr_of {a b : Int} (h : a = b) : Int32.ofInt a = Int32.ofInt b := by rw [h]
theorem zmax {a b : Int} (ha : -2147483648 ≤ a ∧ a < 2147483648) (hb : -2147483648 ≤ b ∧ b < 2147483648) : (if Int32.ofInt a < Int32.ofInt b then Int32.ofInt b else Int32.ofInt a) = Int32.ofInt (max a b) := by
  split
  · rename_i h
    rw [zi_lt ha hb] at h
    exact zr_of (by omega)
  · rename_i h
    rw [zi_lt ha hb] at h
    exact zr_of (by omega)
theorem zmin {a b : Int} (ha : -2147483648 ≤ a ∧ a < 2147483648) (hb : -2147483648 ≤ b ∧ b < 2147483648) : (if Int32.ofInt b < Int32.ofInt a then Int32.ofInt b else Int32.ofInt a) = Int32.ofInt (min a b) := by
  split
  · rename_i h
    rw [zi_lt hb ha] at h
    exact zr_of (by omega)
  · rename_i h
    rw [zi_lt hb ha] at h
    exact zr_of (by omega)
theorem zupd_upd {f : Nat → Int32} {k : Nat} {u v : Int32} : upd (upd f k u) k v = upd f k v := by
  funext j
  by_cases h : j = k
  · rw [h, zup_s, zup_s]
  · rw [zup_n h, zup_n h, zup_n h]
theorem zupd_self {f : Nat → Int32} {k : Nat} {v : Int32} (h : f k = v) : upd f k v = f := by
  funext j
  by_cases e : j = k
  · rw [e, zup_s, h]
  · rw [zup_n e]
theorem zvup_self {α : Type} {f : Nat → α} {k : Nat} : va_up f k (f k) = f := by
  funext j
  by_cases e : j = k
  · rw [e, zvup_s]
  · rw [zvup_n e]
theorem zi_nneg {a : Int} (h : 0 ≤ a ∧ a < 2147483648) : (Int32.ofInt a < Int32.ofInt 0) = False := by
  rw [zi_lt (by omega) (by omega)]
  exact eq_false (by omega)
theorem zcut_le {a b : Nat} (h : a ≤ b) : (a ≤ b) = True := eq_true h
