/-! tasks put in and taken out -/
def Pl.cb (l : Nat) (fl : Bool) : Nat := 2 * l + (if fl then 1 else 0)
def Pl.tf (fl : Bool) : Nat := if fl then 1 else 2
theorem cb_2 {l : Nat} {fl : Bool} : Pl.cb l fl / 2 = l := by unfold Pl.cb; split <;> omega
/-- only the row, its number and the plan may differ -/
def rEq (F : Nat → Int32) (A : Nat → Nat → Int32) (F' : Nat → Int32) (A' : Nat → Nat → Int32) : Prop := (∀ k, k ≠ 8 → k ≠ 9 → F' k = F k) ∧ ∀ p, p ≠ 1 → p ≠ 5 → A' p = A p
theorem rEq.c {F F' : Nat → Int32} {A A' : Nat → Nat → Int32} (h : rEq F A F' A') : cEq F A F' A' := ⟨fun k hk => h.1 k (by omega) (by omega), fun p hp => h.2 p (by omega) (by omega)⟩
theorem rEq.rf {F : Nat → Int32} {A : Nat → Nat → Int32} : rEq F A F A := ⟨fun _ _ _ => rfl, fun _ _ _ => rfl⟩
theorem rEq.tr {F F' F2 : Nat → Int32} {A A' A2 : Nat → Nat → Int32} (h : rEq F A F' A') (h2 : rEq F' A' F2 A2) : rEq F A F2 A2 :=
  ⟨fun k h8 h9 => (h2.1 k h8 h9).trans (h.1 k h8 h9), fun p h8 h9 => (h2.2 p h8 h9).trans (h.2 p h8 h9)⟩
theorem MH.r {F F' : Nat → Int32} {A A' : Nat → Nat → Int32} {H : List Pl} (hH : MH F A H) (h : rEq F A F' A') : MH F' A' H := hH.cg (h.1 4 (by omega) (by omega)) (h.2 3 (by omega) (by omega))
section M22
variable {d w0n rc0 rs0 : Nat} {F : Nat → Int32} {A : Nat → Nat → Int32} {P : Pl} {K : Option Value → zWd → Prop} {L : List Nat} {b : Int} {a i w : Int} {H : List Pl}
theorem pTask_tk {c l t k m : Nat} : (P.pTask c l t).tk k m = if k = c ∧ m = l then t else P.tk k m := rfl
theorem pTask_o {c l t k : Nat} (hP : P.ok) (h : k ≠ c) : (P.pTask c l t).its k = P.its k := by
  refine its_cg hP rfl ?_ (fun _ _ => rfl)
  funext m
  rw [pTask_tk, if_neg (by omega)]
theorem its_rg {c i : Nat} (h : i < (P.its c).length) : rg (P.its c) i < P.nl ∧ P.tk c (rg (P.its c) i) ≠ 0 :=
  ⟨(its_mem.mp (rc_mem h)).1, (its_mem.mp (rc_mem h)).2.1⟩
theorem pTask_i {c l : Nat} {fl : Bool} (hl : l < P.nl) (h0 : P.tk c l = 0) : (P.pTask c l (Pl.tf fl)).its c = P.ins (P.its c) (Pl.cb l fl) := by
  refine its_eq (srt_cg (ins_srt its_srt (fun i hi e => ?_)) (fun i hi => rfl)) (fun x => ?_)
  · rw [cb_2] at e
    have := (its_rg hi).2
    rw [e] at this
    exact this h0
  · have e1 : (P.pTask c l (Pl.tf fl)).nl = P.nl := rfl
    rw [mem_ins, its_mem, e1]
    by_cases e : x / 2 = l
    · have t2 : (P.pTask c l (Pl.tf fl)).tk c (x / 2) = Pl.tf fl := by rw [pTask_tk]; exact if_pos ⟨rfl, e⟩
      rw [t2, e]
      have e3 : x = 2 * l + x % 2 := by omega
      cases fl
      · have c1 : Pl.cb l false = 2 * l := rfl
        have c2 : (if Pl.tf false = 1 then 1 else 0) = 0 := rfl
        rw [c1, c2]
        constructor
        · rintro (h | h)
          · exact ⟨hl, by decide, by omega⟩
          · exact absurd h0 h.2.1
        · rintro ⟨-, -, h⟩
          left; omega
      · have c1 : Pl.cb l true = 2 * l + 1 := rfl
        have c2 : (if Pl.tf true = 1 then 1 else 0) = 1 := rfl
        rw [c1, c2]
        constructor
        · rintro (h | h)
          · exact ⟨hl, by decide, by omega⟩
          · exact absurd h0 h.2.1
        · rintro ⟨-, -, h⟩
          left; omega
    · have t2 : (P.pTask c l (Pl.tf fl)).tk c (x / 2) = P.tk c (x / 2) := by rw [pTask_tk]; exact if_neg (fun h => e h.2)
      rw [t2]
      constructor
      · rintro (h | h)
        · rw [h, cb_2] at e; exact absurd rfl e
        · exact h
      · exact Or.inr
theorem pTask_d {c l p : Nat} (hp : p < (P.its c).length) (hg : rg (P.its c) p = l) : (P.pTask c l 0).its c = (P.its c).eraseIdx p := by
  have hlen : ((P.its c).eraseIdx p).length = (P.its c).length - 1 := List.length_eraseIdx_of_lt hp
  have inj := fun (i j : Nat) (hi : i < (P.its c).length) (hj : j < (P.its c).length) (e : rg (P.its c) i = rg (P.its c) j) => srt_inj (its_srt (P := P) (c := c)) hi hj e
  refine its_eq (fun i j hij hj => ?_) (fun x => ?_)
  · rw [hlen] at hj
    have hs := its_srt (P := P) (c := c)
    have e : ∀ i, rg ((P.its c).eraseIdx p) i = if i < p then rg (P.its c) i else rg (P.its c) (i + 1) := by
      intro i; unfold rg; rw [rc_erase hp]; split <;> rfl
    rw [e, e]
    have key : ∀ i j, i < j → j < (P.its c).length → (P.pTask c l 0).lt (rg (P.its c) i) (rg (P.its c) j) := fun i j h1 h2 => hs i j h1 h2
    split <;> split <;> exact key _ _ (by omega) (by omega)
  · have e1 : (P.pTask c l 0).nl = P.nl := rfl
    rw [e1]
    constructor
    · intro h
      obtain ⟨i, hi, rfl⟩ := mem_rc h
      rw [hlen] at hi
      rw [rc_erase hp]
      have key : ∀ i, i < (P.its c).length → i ≠ p → rc (P.its c) i / 2 < P.nl ∧ (P.pTask c l 0).tk c (rc (P.its c) i / 2) ≠ 0 ∧ rc (P.its c) i % 2 = if (P.pTask c l 0).tk c (rc (P.its c) i / 2) = 1 then 1 else 0 := by
        intro i hi hne
        have t2 : (P.pTask c l 0).tk c (rc (P.its c) i / 2) = P.tk c (rc (P.its c) i / 2) := by
          rw [pTask_tk]; exact if_neg (fun h => hne (inj i p hi hp (by rw [hg]; exact h.2)))
        rw [t2]
        exact its_mem.mp (rc_mem hi)
      split
      · exact key i (by omega) (by omega)
      · exact key (i + 1) (by omega) (by omega)
    · rintro ⟨h1, h2, h3⟩
      by_cases e : x / 2 = l
      · have t2 : (P.pTask c l 0).tk c (x / 2) = 0 := by rw [pTask_tk]; exact if_pos ⟨rfl, e⟩
        exact absurd t2 h2
      · have t2 : (P.pTask c l 0).tk c (x / 2) = P.tk c (x / 2) := by rw [pTask_tk]; exact if_neg (fun h => e h.2)
        rw [t2] at h2 h3
        obtain ⟨i, hi, rfl⟩ := mem_rc (its_mem.mpr ⟨h1, h2, h3⟩)
        have hne : i ≠ p := by rintro rfl; exact e hg
        by_cases h : i < p
        · have := rc_mem (L := (P.its c).eraseIdx p) (i := i) (by omega)
          rw [rc_erase hp, if_pos h] at this
          exact this
        · have := rc_mem (L := (P.its c).eraseIdx p) (i := i - 1) (by omega)
          rw [rc_erase hp, if_neg (by omega), show i - 1 + 1 = i by omega] at this
          exact this
theorem pTask_ok {c l t : Nat} (hP : P.ok) (ht : t ≤ 2) (h : t ≠ 0 → c < P.nc ∧ l < P.nl ∧ P.lg l 4 = 0) (h1 : t = 1 → ∀ k, P.tk k l ≠ 1) : (P.pTask c l t).ok := by
  obtain ⟨p1, p2, p3, p4, p5, p6, p7⟩ := hP
  refine ⟨p1, p2, p3, p4, fun k m => ?_, fun k k' m hk hk' => ?_, p7⟩
  · rw [pTask_tk]
    by_cases e : k = c ∧ m = l
    · rw [if_pos e, e.1, e.2]; exact ⟨ht, h⟩
    · rw [if_neg e]; exact p5 k m
  · rw [pTask_tk] at hk hk'
    by_cases e : k = c ∧ m = l
    · by_cases e' : k' = c ∧ m = l
      · omega
      · rw [if_pos e] at hk
        rw [if_neg e'] at hk'
        rw [e.2] at hk'
        exact absurd hk' (h1 hk k')
    · rw [if_neg e] at hk
      by_cases e' : k' = c ∧ m = l
      · rw [if_pos e'] at hk'
        rw [e'.2] at hk
        exact absurd hk (h1 hk' k)
      · rw [if_neg e'] at hk'
        exact p6 k k' m hk hk'
theorem MS.task {s s' : Nat → Int32} {c l t : Nat} {M : List Nat} (hS : MS s P) (hP : P.ok) (hc : c < P.nc) (hM : (P.pTask c l t).its c = M) (h1 : s' (130 + 28 * c + 3) = Int32.ofInt (M.length : Int)) (h2 : ∀ i, i < M.length → s' (130 + 28 * c + 4 + i) = Int32.ofInt (rc M i : Int)) (hr : ∀ j, j < 130 + 28 * c + 3 ∨ 130 + 28 * c + 4 + M.length ≤ j → s' j = s j) : MS s' (P.pTask c l t) := by
  have h6 := hP.2.1
  have h24 := hP.1
  have hML : M.length ≤ P.nl := by rw [← hM]; exact its_len
  obtain ⟨a1, a2, a3, a4, a5⟩ := hS
  refine ⟨(hr 0 (by omega)).trans a1, (hr 1 (by omega)).trans a2, fun r hr2 => (hr _ (by omega)).trans (a3 r hr2), fun m hm j hj => ?_, fun k hk => ?_⟩
  · have hm : m < P.nl := hm
    exact (hr _ (by omega)).trans (a4 m hm j hj)
  · have hk : k < P.nc := hk
    have hn : (P.its k).length ≤ P.nl := its_len
    by_cases e : k = c
    · subst e
      rw [hM]
      exact ⟨fun j hj => (hr _ (by omega)).trans ((a5 k hk).1 j hj), h1, h2⟩
    · rw [pTask_o hP e]
      exact ⟨fun j hj => (hr _ (by omega)).trans ((a5 k hk).1 j hj), (hr _ (by omega)).trans (a5 k hk).2.1, fun i hi => (hr _ (by omega)).trans ((a5 k hk).2.2 i hi)⟩
end M22
