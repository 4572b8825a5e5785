/-! the mathematical plan: legs, crews, tasks (0 none, 1 flies, 2 rides), rules; rows as lists of legs; violations -/
def Pl : Type := (Nat × Nat) × (Nat → Nat → Int) × (Nat → Nat → Int) × (Nat → Nat → Nat) × (Nat → Int)
def Pl.nl (P : Pl) : Nat := P.1.1
def Pl.nc (P : Pl) : Nat := P.1.2
def Pl.lg (P : Pl) : Nat → Nat → Int := P.2.1
def Pl.cr (P : Pl) : Nat → Nat → Int := P.2.2.1
def Pl.tk (P : Pl) : Nat → Nat → Nat := P.2.2.2.1
def Pl.ru (P : Pl) : Nat → Int := P.2.2.2.2
def Pl.dp (P : Pl) (l : Nat) : Int := P.lg l 2
def Pl.ar (P : Pl) (l : Nat) : Int := P.lg l 3
def Pl.len (P : Pl) (l : Nat) : Int := P.ar l - P.dp l
/-- what always holds of a plan -/
def Pl.ok (P : Pl) : Prop := P.nl ≤ 24 ∧ P.nc ≤ 6 ∧
  (∀ l, l < P.nl → (0 ≤ P.lg l 0 ∧ P.lg l 0 < 6) ∧ (0 ≤ P.lg l 1 ∧ P.lg l 1 < 6) ∧ 0 ≤ P.dp l ∧ P.dp l + 1 ≤ P.ar l ∧ P.ar l ≤ P.dp l + 600 ∧ P.ar l ≤ 5999 ∧ (P.lg l 4 = 0 ∨ P.lg l 4 = 1)) ∧
  (∀ c, c < P.nc → (0 ≤ P.cr c 0 ∧ P.cr c 0 < 6) ∧ 0 ≤ P.cr c 1 ∧ P.cr c 1 ≤ 5999 ∧ P.cr c 1 ≤ P.cr c 2 ∧ P.cr c 2 ≤ 6000) ∧
  (∀ c l, P.tk c l ≤ 2 ∧ (P.tk c l ≠ 0 → c < P.nc ∧ l < P.nl ∧ P.lg l 4 = 0)) ∧
  (∀ c c' l, P.tk c l = 1 → P.tk c' l = 1 → c = c') ∧
  (∀ r, r < 8 → 0 ≤ P.ru r ∧ P.ru r ≤ 9999)
/-- the order of legs: by departure, then by number -/
def Pl.lt (P : Pl) (a b : Nat) : Prop := P.dp a < P.dp b ∨ P.dp a = P.dp b ∧ a < b
def Pl.ltb (P : Pl) (a b : Nat) : Bool := decide (P.dp a < P.dp b) || (decide (P.dp a = P.dp b) && decide (a < b))
theorem Pl.ltb_iff {P : Pl} {a b : Nat} : P.ltb a b = true ↔ P.lt a b := by simp [Pl.ltb, Pl.lt]
theorem Pl.lt_irrefl {P : Pl} {a : Nat} : ¬ P.lt a a := by
  unfold Pl.lt; omega
theorem Pl.lt_trans {P : Pl} {a b c : Nat} (h : P.lt a b) (h2 : P.lt b c) : P.lt a c := by
  unfold Pl.lt at *; omega
theorem Pl.lt_tri {P : Pl} (a b : Nat) : P.lt a b ∨ a = b ∨ P.lt b a := by
  unfold Pl.lt; omega
/-- a row holds codes: twice the leg, and one more where it is flown; its place i: the code, the leg, whether it is flown -/
def rc (L : List Nat) (i : Nat) : Nat := L.getD i 0
def rg (L : List Nat) (i : Nat) : Nat := rc L i / 2
def rf (L : List Nat) (i : Nat) : Bool := decide (rc L i % 2 = 1)
def Pl.gap (P : Pl) (L : List Nat) (i : Nat) : Int := P.dp (rg L i) - P.ar (rg L (i - 1))
def Pl.beg (P : Pl) (L : List Nat) (i : Nat) : Bool := decide (i = 0) || decide (P.ru 1 ≤ P.gap L i)
def Pl.dendF (P : Pl) (L : List Nat) : Nat → Nat → Nat
  | 0, e => e
  | k + 1, e => if e < L.length ∧ P.beg L e = false then P.dendF L k (e + 1) else e
/-- the place behind a duty -/
def Pl.dend (P : Pl) (L : List Nat) (i : Nat) : Nat := P.dendF L L.length (i + 1)
/-- the minutes flown at k places from a on -/
def Pl.fls (P : Pl) (L : List Nat) (a : Nat) : Nat → Int
  | 0 => 0
  | k + 1 => P.fls L a k + (if rf L (a + k) then P.len (rg L (a + k)) else 0)
/-- the minutes flown within t minutes from s on, at the first k places -/
def Pl.win (P : Pl) (L : List Nat) (s t : Int) : Nat → Int
  | 0 => 0
  | k + 1 => P.win L s t k + (if rf L k then max 0 (min (s + t) (P.ar (rg L k)) - max s (P.dp (rg L k))) else 0)
def Pl.viol (P : Pl) (L : List Nat) (b : Int) (k i : Nat) : Bool := match k with
  | 1 => decide (0 < i) && decide (P.gap L i < 0)
  | 2 => decide (P.lg (rg L i) 0 ≠ (if i = 0 then b else P.lg (rg L (i - 1)) 1))
  | 3 => decide (0 < i) && (decide (0 ≤ P.gap L i) && decide (P.gap L i < P.ru 0))
  | 4 => P.beg L i && decide (P.ru 2 < P.ar (rg L (P.dend L i - 1)) - P.dp (rg L i))
  | 5 => P.beg L i && decide (P.ru 3 < P.fls L i (P.dend L i - i))
  | 6 => P.beg L i && decide (P.ru 4 < (P.dend L i : Int) - (i : Int))
  | _ => rf L i && decide (P.ru 5 < P.win L (P.dp (rg L i)) 1440 L.length)
/-- the violations of kind k at the c places from i on; of the c kinds from k on -/
def Pl.vR (P : Pl) (L : List Nat) (b : Int) (k : Nat) : Nat → Nat → List (Nat × Nat)
  | 0, _ => []
  | c + 1, i => if P.viol L b k i then (k, i) :: P.vR L b k c (i + 1) else P.vR L b k c (i + 1)
def Pl.vK (P : Pl) (L : List Nat) (b : Int) : Nat → Nat → List (Nat × Nat)
  | 0, _ => []
  | c + 1, k => P.vR L b k L.length 0 ++ P.vK L b c (k + 1)
def Pl.vl (P : Pl) (L : List Nat) (b : Int) : List (Nat × Nat) := P.vK L b 7 1
/-- where a leg belongs: behind the last one of the first n places that isn't behind it -/
def Pl.pos (P : Pl) (L : List Nat) (l : Nat) : Nat → Nat
  | 0 => 0
  | n + 1 => if P.ltb l (rg L n) then P.pos L l n else n + 1
def Pl.ins (P : Pl) (L : List Nat) (x : Nat) : List Nat := L.take (P.pos L (x / 2) L.length) ++ x :: L.drop (P.pos L (x / 2) L.length)
/-- all legs in their order; the row of a crew -/
def Pl.ordF (P : Pl) : Nat → List Nat
  | 0 => []
  | n + 1 => P.ins (P.ordF n) (2 * n)
def Pl.ord (P : Pl) : List Nat := (P.ordF P.nl).map (fun x => x / 2)
def Pl.its (P : Pl) (c : Nat) : List Nat := (P.ord.filter (fun l => decide (P.tk c l ≠ 0))).map (fun l => 2 * l + (if P.tk c l = 1 then 1 else 0))
/-- who flies a leg: the first one of the first n crews, -2 for nobody -/
def Pl.fyF (P : Pl) (l : Nat) : Nat → Nat → Int
  | 0, _ => -2
  | n + 1, c => if P.tk c l = 1 then (c : Int) else P.fyF l n (c + 1)
def Pl.fy (P : Pl) (l : Nat) : Int := P.fyF l P.nc 0
/-- the reference's numbers hold a plan, but its rows are these -/
def MSR (s : Nat → Int32) (P : Pl) (R : Nat → List Nat) : Prop := s 0 = Int32.ofInt P.nl ∧ s 1 = Int32.ofInt P.nc ∧ (∀ r, r < 8 → s (2 + r) = Int32.ofInt (P.ru r)) ∧
  (∀ l, l < P.nl → ∀ j, j < 5 → s (10 + 5 * l + j) = Int32.ofInt (P.lg l j)) ∧
  (∀ c, c < P.nc → (∀ j, j < 3 → s (130 + 28 * c + j) = Int32.ofInt (P.cr c j)) ∧ s (130 + 28 * c + 3) = Int32.ofInt ((R c).length : Int) ∧
    ∀ i, i < (R c).length → s (130 + 28 * c + 4 + i) = Int32.ofInt (rc (R c) i : Int))
/-- the reference's numbers hold a plan -/
def MS (s : Nat → Int32) (P : Pl) : Prop := MSR s P P.its
/-- the row that the reference looks at -/
def MR (F : Nat → Int32) (A : Nat → Nat → Int32) (L : List Nat) (b : Int) : Prop := F 8 = Int32.ofInt (L.length : Int) ∧ F 9 = Int32.ofInt b ∧ ∀ i, i < L.length → A 5 i = Int32.ofInt (rc L i : Int)
