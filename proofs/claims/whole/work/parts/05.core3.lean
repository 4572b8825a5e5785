/-! one instruction after another -/
section ZI
variable {M : zMth} {d w0n pc : Nat} {lv : List (Option Value)} {st : List Value} {w : zWd} {rc rs : Nat} {Q : Option Value → zWd → Prop}
theorem Go.iload_n {k : Fin 4} {x : Int32} (hd : decode M.2.1 pc = .ok (.iload_n k, 1)) (h : lv[(k : Nat)]? = some (some (.int x))) (g : Go M d w0n (pc + 1) lv (.int x :: st) w rc rs Q) : Go M d w0n pc lv st w rc rs Q := by
  intro p l e s m args below meth c dC dI dA loc0 w0 H locs cells slots loc ls hA hH
  exact lv_iload_n hA.1 hA.2.1 hd rfl (hH.2.2.2.2.1.2.2 _ _ h).1 (g _ _ _ _ _ _ _ _ _ _ _ _ _ _ _ _ _ _ _ _ hA hH)
theorem Go.iload {i : Nat} {x : Int32} (hd : decode M.2.1 pc = .ok (.iload i, 2)) (h : lv[i]? = some (some (.int x))) (g : Go M d w0n (pc + 2) lv (.int x :: st) w rc rs Q) : Go M d w0n pc lv st w rc rs Q := by
  intro p l e s m args below meth c dC dI dA loc0 w0 H locs cells slots loc ls hA hH
  exact lv_iload hA.1 hA.2.1 hd (hH.2.2.2.2.1.2.2 _ _ h).1 (g _ _ _ _ _ _ _ _ _ _ _ _ _ _ _ _ _ _ _ _ hA hH)
theorem Go.aload_n {k : Fin 4} {x : Nat} (hd : decode M.2.1 pc = .ok (.aload_n k, 1)) (h : lv[(k : Nat)]? = some (some (.ref x))) (g : Go M d w0n (pc + 1) lv (.ref x :: st) w rc rs Q) : Go M d w0n pc lv st w rc rs Q := by
  intro p l e s m args below meth c dC dI dA loc0 w0 H locs cells slots loc ls hA hH
  exact lv_aload_n hA.1 hA.2.1 hd rfl (hH.2.2.2.2.1.2.2 _ _ h).1 (g _ _ _ _ _ _ _ _ _ _ _ _ _ _ _ _ _ _ _ _ hA hH)
theorem Go.aload {i : Nat} {x : Nat} (hd : decode M.2.1 pc = .ok (.aload i, 2)) (h : lv[i]? = some (some (.ref x))) (g : Go M d w0n (pc + 2) lv (.ref x :: st) w rc rs Q) : Go M d w0n pc lv st w rc rs Q := by
  intro p l e s m args below meth c dC dI dA loc0 w0 H locs cells slots loc ls hA hH
  exact lv_aload hA.1 hA.2.1 hd (hH.2.2.2.2.1.2.2 _ _ h).1 (g _ _ _ _ _ _ _ _ _ _ _ _ _ _ _ _ _ _ _ _ hA hH)
theorem zHere.store {s : State} {dC : Nat → ClassId} {dI : Nat → Nat → Nat} {dA : Nat → ClassId} {loc0 : Nat → Nat} {w0 : zWd} {H : Heap} {locs : List Loc} {cells slots : Nat} {loc : Nat → Nat} {ls ls' : Array Slot} {i : Nat} {v : Value}
    (hH : zHere M w0n s dC dI dA loc0 w0 H locs cells slots loc ls lv w rc rs) (hi : i < lv.length) (hc : v.category = 1) (h' : lv_has ls' lv.length ((i, zv loc v) :: (zL loc lv).filter (fun q => !(q.1 == i) && !(q.1 + 1 == i && q.2.category == 2)))) :
    zHere M w0n s dC dI dA loc0 w0 H locs cells slots loc ls' (lv.set i (some v)) w rc rs := by
  obtain ⟨h1, h2, h3, h4, h5, h6, h7, h8, h9, h10⟩ := hH
  exact ⟨h1, h2, h3, h4, h5.store hi hc h', by rw [List.length_set]; exact h6, h7, h8, h9, h10⟩
theorem Go.istore_n {k : Fin 4} {x : Int32} (hd : decode M.2.1 pc = .ok (.istore_n k, 1)) (hi : (k : Nat) < lv.length) (g : Go M d w0n (pc + 1) (lv.set (k : Nat) (some (.int x))) st w rc rs Q) : Go M d w0n pc lv (.int x :: st) w rc rs Q := by
  intro p l e s m args below meth c dC dI dA loc0 w0 H locs cells slots loc ls hA hH
  exact lv_istore_n hA.1 hA.2.1 hd rfl hH.2.2.2.2.1.has hi rfl (fun ls' hl' => g _ _ _ _ _ _ _ _ _ _ _ _ _ _ _ _ _ _ _ _ hA (hH.store hi rfl hl'))
theorem Go.istore {i : Nat} {x : Int32} (hd : decode M.2.1 pc = .ok (.istore i, 2)) (hi : i < lv.length) (g : Go M d w0n (pc + 2) (lv.set i (some (.int x))) st w rc rs Q) : Go M d w0n pc lv (.int x :: st) w rc rs Q := by
  intro p l e s m args below meth c dC dI dA loc0 w0 H locs cells slots loc ls hA hH
  exact lv_istore hA.1 hA.2.1 hd hH.2.2.2.2.1.has hi rfl (fun ls' hl' => g _ _ _ _ _ _ _ _ _ _ _ _ _ _ _ _ _ _ _ _ hA (hH.store hi rfl hl'))
theorem Go.astore_n {k : Fin 4} {x : Nat} (hd : decode M.2.1 pc = .ok (.astore_n k, 1)) (hi : (k : Nat) < lv.length) (g : Go M d w0n (pc + 1) (lv.set (k : Nat) (some (.ref x))) st w rc rs Q) : Go M d w0n pc lv (.ref x :: st) w rc rs Q := by
  intro p l e s m args below meth c dC dI dA loc0 w0 H locs cells slots loc ls hA hH
  exact lv_astore_n hA.1 hA.2.1 hd rfl hH.2.2.2.2.1.has hi rfl (fun ls' hl' => g _ _ _ _ _ _ _ _ _ _ _ _ _ _ _ _ _ _ _ _ hA (hH.store (v := .ref x) hi rfl hl'))
theorem Go.iinc {i : Nat} {n : Int} {x : Int32} (hd : decode M.2.1 pc = .ok (.iinc i n, 3)) (h : lv[i]? = some (some (.int x))) (g : Go M d w0n (pc + 3) (lv.set i (some (.int (x + Int32.ofInt n)))) st w rc rs Q) : Go M d w0n pc lv st w rc rs Q := by
  intro p l e s m args below meth c dC dI dA loc0 w0 H locs cells slots loc ls hA hH
  have hi : i < lv.length := (List.getElem?_eq_some_iff.mp h).1
  obtain ⟨k, hk⟩ := List.getElem?_of_mem (zL_mem (loc := loc) h)
  exact lv_iinc hA.1 hA.2.1 hd hH.2.2.2.2.1.has hk rfl hi rfl (fun ls' hl' => g _ _ _ _ _ _ _ _ _ _ _ _ _ _ _ _ _ _ _ _ hA (hH.store hi rfl hl'))
theorem Go.iconst {n : Int} (hd : decode M.2.1 pc = .ok (.iconst n, 1)) (g : Go M d w0n (pc + 1) lv (.int (Int32.ofInt n) :: st) w rc rs Q) : Go M d w0n pc lv st w rc rs Q := by
  intro p l e s m args below meth c dC dI dA loc0 w0 H locs cells slots loc ls hA hH
  exact lv_iconst hA.1 hA.2.1 hd rfl (g _ _ _ _ _ _ _ _ _ _ _ _ _ _ _ _ _ _ _ _ hA hH)
theorem Go.bipush {n : Int} (hd : decode M.2.1 pc = .ok (.bipush n, 2)) (g : Go M d w0n (pc + 2) lv (.int (Int8.ofInt n).toInt32 :: st) w rc rs Q) : Go M d w0n pc lv st w rc rs Q := by
  intro p l e s m args below meth c dC dI dA loc0 w0 H locs cells slots loc ls hA hH
  exact lv_bipush hA.1 hA.2.1 hd rfl (g _ _ _ _ _ _ _ _ _ _ _ _ _ _ _ _ _ _ _ _ hA hH)
theorem Go.sipush {n : Int} (hd : decode M.2.1 pc = .ok (.sipush n, 3)) (g : Go M d w0n (pc + 3) lv (.int (Int16.ofInt n).toInt32 :: st) w rc rs Q) : Go M d w0n pc lv st w rc rs Q := by
  intro p l e s m args below meth c dC dI dA loc0 w0 H locs cells slots loc ls hA hH
  exact lv_sipush hA.1 hA.2.1 hd rfl (g _ _ _ _ _ _ _ _ _ _ _ _ _ _ _ _ _ _ _ _ hA hH)
theorem Go.iadd {x y : Int32} (hd : decode M.2.1 pc = .ok (.iadd, 1)) (g : Go M d w0n (pc + 1) lv (.int (x + y) :: st) w rc rs Q) : Go M d w0n pc lv (.int y :: .int x :: st) w rc rs Q := by
  intro p l e s m args below meth c dC dI dA loc0 w0 H locs cells slots loc ls hA hH
  exact lv_iadd hA.1 hA.2.1 hd (g _ _ _ _ _ _ _ _ _ _ _ _ _ _ _ _ _ _ _ _ hA hH)
theorem Go.isub {x y : Int32} (hd : decode M.2.1 pc = .ok (.isub, 1)) (g : Go M d w0n (pc + 1) lv (.int (x - y) :: st) w rc rs Q) : Go M d w0n pc lv (.int y :: .int x :: st) w rc rs Q := by
  intro p l e s m args below meth c dC dI dA loc0 w0 H locs cells slots loc ls hA hH
  exact lv_isub hA.1 hA.2.1 hd (g _ _ _ _ _ _ _ _ _ _ _ _ _ _ _ _ _ _ _ _ hA hH)
theorem Go.imul {x y : Int32} (hd : decode M.2.1 pc = .ok (.imul, 1)) (g : Go M d w0n (pc + 1) lv (.int (x * y) :: st) w rc rs Q) : Go M d w0n pc lv (.int y :: .int x :: st) w rc rs Q := by
  intro p l e s m args below meth c dC dI dA loc0 w0 H locs cells slots loc ls hA hH
  exact lv_imul hA.1 hA.2.1 hd (g _ _ _ _ _ _ _ _ _ _ _ _ _ _ _ _ _ _ _ _ hA hH)
theorem Go.iand {x y : Int32} (hd : decode M.2.1 pc = .ok (.iand, 1)) (g : Go M d w0n (pc + 1) lv (.int (x &&& y) :: st) w rc rs Q) : Go M d w0n pc lv (.int y :: .int x :: st) w rc rs Q := by
  intro p l e s m args below meth c dC dI dA loc0 w0 H locs cells slots loc ls hA hH
  exact lv_iand hA.1 hA.2.1 hd (g _ _ _ _ _ _ _ _ _ _ _ _ _ _ _ _ _ _ _ _ hA hH)
theorem Go.idiv {x y : Int32} (hd : decode M.2.1 pc = .ok (.idiv, 1)) (hy : ¬ y = 0) (g : Go M d w0n (pc + 1) lv (.int (x / y) :: st) w rc rs Q) : Go M d w0n pc lv (.int y :: .int x :: st) w rc rs Q := by
  intro p l e s m args below meth c dC dI dA loc0 w0 H locs cells slots loc ls hA hH
  exact lv_idiv hA.1 hA.2.1 hd hy (g _ _ _ _ _ _ _ _ _ _ _ _ _ _ _ _ _ _ _ _ hA hH)
theorem Go.irem {x y : Int32} (hd : decode M.2.1 pc = .ok (.irem, 1)) (hy : ¬ y = 0) (g : Go M d w0n (pc + 1) lv (.int (x - x / y * y) :: st) w rc rs Q) : Go M d w0n pc lv (.int y :: .int x :: st) w rc rs Q := by
  intro p l e s m args below meth c dC dI dA loc0 w0 H locs cells slots loc ls hA hH
  exact lv_irem hA.1 hA.2.1 hd hy (g _ _ _ _ _ _ _ _ _ _ _ _ _ _ _ _ _ _ _ _ hA hH)
theorem Go.i2c {x : Int32} (hd : decode M.2.1 pc = .ok (.i2c, 1)) (g : Go M d w0n (pc + 1) lv (.int (x.toUInt32 % 65536).toInt32 :: st) w rc rs Q) : Go M d w0n pc lv (.int x :: st) w rc rs Q := by
  intro p l e s m args below meth c dC dI dA loc0 w0 H locs cells slots loc ls hA hH
  exact lv_i2c hA.1 hA.2.1 hd rfl (g _ _ _ _ _ _ _ _ _ _ _ _ _ _ _ _ _ _ _ _ hA hH)
theorem Go.dup {v : Value} (hd : decode M.2.1 pc = .ok (.dup, 1)) (hv : v.category = 1) (g : Go M d w0n (pc + 1) lv (v :: v :: st) w rc rs Q) : Go M d w0n pc lv (v :: st) w rc rs Q := by
  intro p l e s m args below meth c dC dI dA loc0 w0 H locs cells slots loc ls hA hH
  exact lv_dup hA.1 hA.2.1 hd (by rw [zv_cat]; exact hv) (g _ _ _ _ _ _ _ _ _ _ _ _ _ _ _ _ _ _ _ _ hA hH)
theorem Go.goto {off : Int} {t : Nat} (hd : decode M.2.1 pc = .ok (.goto off, 3)) (ht : (pc : Int) + off = (t : Int)) (g : Go M d w0n t lv st w rc rs Q) : Go M d w0n pc lv st w rc rs Q := by
  intro p l e s m args below meth c dC dI dA loc0 w0 H locs cells slots loc ls hA hH
  exact lv_goto hA.1 hA.2.1 hd ht (g _ _ _ _ _ _ _ _ _ _ _ _ _ _ _ _ _ _ _ _ hA hH)
theorem Go.tableIn {dflt lo hi : Int} {offs : Array Int} {len : Nat} {x : Int32} {off : Int} {t : Nat} (hd : decode M.2.1 pc = .ok (.tableswitch dflt lo hi offs, len)) (h1 : ¬ x.toInt < lo) (h2 : ¬ hi < x.toInt) (ho : offs[(x.toInt - lo).toNat]? = some off) (ht : (pc : Int) + off = (t : Int)) (g : Go M d w0n t lv st w rc rs Q) : Go M d w0n pc lv (.int x :: st) w rc rs Q := by
  intro p l e s m args below meth c dC dI dA loc0 w0 H locs cells slots loc ls hA hH
  exact lv_tableIn hA.1 hA.2.1 hd h1 h2 ho ht (g _ _ _ _ _ _ _ _ _ _ _ _ _ _ _ _ _ _ _ _ hA hH)
theorem Go.tableOut {dflt lo hi : Int} {offs : Array Int} {len : Nat} {x : Int32} {t : Nat} (hd : decode M.2.1 pc = .ok (.tableswitch dflt lo hi offs, len)) (h : x.toInt < lo ∨ hi < x.toInt) (ht : (pc : Int) + dflt = (t : Int)) (g : Go M d w0n t lv st w rc rs Q) : Go M d w0n pc lv (.int x :: st) w rc rs Q := by
  intro p l e s m args below meth c dC dI dA loc0 w0 H locs cells slots loc ls hA hH
  exact lv_tableOut hA.1 hA.2.1 hd h ht (g _ _ _ _ _ _ _ _ _ _ _ _ _ _ _ _ _ _ _ _ hA hH)
theorem Go.lookup {dflt : Int} {ps : Array (Int × Int)} {len : Nat} {x : Int32} {t : Nat} (hd : decode M.2.1 pc = .ok (.lookupswitch dflt ps, len)) (hp : (ps.toList.zip (ps.toList.drop 1)).all (fun (a, next) => a.1 < next.1) = true) (ht : (pc : Int) + Op.lookupswitch.offset ps.toList dflt x.toInt = (t : Int)) (g : Go M d w0n t lv st w rc rs Q) : Go M d w0n pc lv (.int x :: st) w rc rs Q := by
  intro p l e s m args below meth c dC dI dA loc0 w0 H locs cells slots loc ls hA hH
  exact lv_lookup hA.1 hA.2.1 hd hp rfl ht (g _ _ _ _ _ _ _ _ _ _ _ _ _ _ _ _ _ _ _ _ hA hH)
theorem Go.icmp_eq {x y : Int32} {off : Int} {t : Nat} (hd : decode M.2.1 pc = .ok (.if_icmp .eq off, 3)) (ht : (pc : Int) + off = (t : Int)) (g : if x = y then Go M d w0n t lv st w rc rs Q else Go M d w0n (pc + 3) lv st w rc rs Q) : Go M d w0n pc lv (.int y :: .int x :: st) w rc rs Q := by
  intro p l e s m args below meth c dC dI dA loc0 w0 H locs cells slots loc ls hA hH
  exact lv_icmp_eq hA.1 hA.2.1 hd ht (fun q => by rw [if_pos (by first | exact q | exact fun z => q z | (simpa using q))] at g; exact g _ _ _ _ _ _ _ _ _ _ _ _ _ _ _ _ _ _ _ _ hA hH) (fun q => by rw [if_neg (by first | exact q | exact fun z => q z | (simpa using q))] at g; exact g _ _ _ _ _ _ _ _ _ _ _ _ _ _ _ _ _ _ _ _ hA hH)
theorem Go.if_eq {x : Int32} {off : Int} {t : Nat} (hd : decode M.2.1 pc = .ok (.ifCond .eq off, 3)) (ht : (pc : Int) + off = (t : Int)) (g : if x = 0 then Go M d w0n t lv st w rc rs Q else Go M d w0n (pc + 3) lv st w rc rs Q) : Go M d w0n pc lv (.int x :: st) w rc rs Q := by
  intro p l e s m args below meth c dC dI dA loc0 w0 H locs cells slots loc ls hA hH
  exact lv_if_eq hA.1 hA.2.1 hd ht (fun q => by rw [if_pos (by first | exact q | exact fun z => q z | (simpa using q))] at g; exact g _ _ _ _ _ _ _ _ _ _ _ _ _ _ _ _ _ _ _ _ hA hH) (fun q => by rw [if_neg (by first | exact q | exact fun z => q z | (simpa using q))] at g; exact g _ _ _ _ _ _ _ _ _ _ _ _ _ _ _ _ _ _ _ _ hA hH)
theorem Go.icmp_ne {x y : Int32} {off : Int} {t : Nat} (hd : decode M.2.1 pc = .ok (.if_icmp .ne off, 3)) (ht : (pc : Int) + off = (t : Int)) (g : if ¬ x = y then Go M d w0n t lv st w rc rs Q else Go M d w0n (pc + 3) lv st w rc rs Q) : Go M d w0n pc lv (.int y :: .int x :: st) w rc rs Q := by
  intro p l e s m args below meth c dC dI dA loc0 w0 H locs cells slots loc ls hA hH
  exact lv_icmp_ne hA.1 hA.2.1 hd ht (fun q => by rw [if_pos (by first | exact q | exact fun z => q z | (simpa using q))] at g; exact g _ _ _ _ _ _ _ _ _ _ _ _ _ _ _ _ _ _ _ _ hA hH) (fun q => by rw [if_neg (by first | exact q | exact fun z => q z | (simpa using q))] at g; exact g _ _ _ _ _ _ _ _ _ _ _ _ _ _ _ _ _ _ _ _ hA hH)
theorem Go.if_ne {x : Int32} {off : Int} {t : Nat} (hd : decode M.2.1 pc = .ok (.ifCond .ne off, 3)) (ht : (pc : Int) + off = (t : Int)) (g : if ¬ x = 0 then Go M d w0n t lv st w rc rs Q else Go M d w0n (pc + 3) lv st w rc rs Q) : Go M d w0n pc lv (.int x :: st) w rc rs Q := by
  intro p l e s m args below meth c dC dI dA loc0 w0 H locs cells slots loc ls hA hH
  exact lv_if_ne hA.1 hA.2.1 hd ht (fun q => by rw [if_pos (by first | exact q | exact fun z => q z | (simpa using q))] at g; exact g _ _ _ _ _ _ _ _ _ _ _ _ _ _ _ _ _ _ _ _ hA hH) (fun q => by rw [if_neg (by first | exact q | exact fun z => q z | (simpa using q))] at g; exact g _ _ _ _ _ _ _ _ _ _ _ _ _ _ _ _ _ _ _ _ hA hH)
theorem Go.icmp_lt {x y : Int32} {off : Int} {t : Nat} (hd : decode M.2.1 pc = .ok (.if_icmp .lt off, 3)) (ht : (pc : Int) + off = (t : Int)) (g : if x < y then Go M d w0n t lv st w rc rs Q else Go M d w0n (pc + 3) lv st w rc rs Q) : Go M d w0n pc lv (.int y :: .int x :: st) w rc rs Q := by
  intro p l e s m args below meth c dC dI dA loc0 w0 H locs cells slots loc ls hA hH
  exact lv_icmp_lt hA.1 hA.2.1 hd ht (fun q => by rw [if_pos (by first | exact q | exact fun z => q z | (simpa using q))] at g; exact g _ _ _ _ _ _ _ _ _ _ _ _ _ _ _ _ _ _ _ _ hA hH) (fun q => by rw [if_neg (by first | exact q | exact fun z => q z | (simpa using q))] at g; exact g _ _ _ _ _ _ _ _ _ _ _ _ _ _ _ _ _ _ _ _ hA hH)
theorem Go.if_lt {x : Int32} {off : Int} {t : Nat} (hd : decode M.2.1 pc = .ok (.ifCond .lt off, 3)) (ht : (pc : Int) + off = (t : Int)) (g : if x < 0 then Go M d w0n t lv st w rc rs Q else Go M d w0n (pc + 3) lv st w rc rs Q) : Go M d w0n pc lv (.int x :: st) w rc rs Q := by
  intro p l e s m args below meth c dC dI dA loc0 w0 H locs cells slots loc ls hA hH
  exact lv_if_lt hA.1 hA.2.1 hd ht (fun q => by rw [if_pos (by first | exact q | exact fun z => q z | (simpa using q))] at g; exact g _ _ _ _ _ _ _ _ _ _ _ _ _ _ _ _ _ _ _ _ hA hH) (fun q => by rw [if_neg (by first | exact q | exact fun z => q z | (simpa using q))] at g; exact g _ _ _ _ _ _ _ _ _ _ _ _ _ _ _ _ _ _ _ _ hA hH)
theorem Go.icmp_ge {x y : Int32} {off : Int} {t : Nat} (hd : decode M.2.1 pc = .ok (.if_icmp .ge off, 3)) (ht : (pc : Int) + off = (t : Int)) (g : if y ≤ x then Go M d w0n t lv st w rc rs Q else Go M d w0n (pc + 3) lv st w rc rs Q) : Go M d w0n pc lv (.int y :: .int x :: st) w rc rs Q := by
  intro p l e s m args below meth c dC dI dA loc0 w0 H locs cells slots loc ls hA hH
  exact lv_icmp_ge hA.1 hA.2.1 hd ht (fun q => by rw [if_pos (by first | exact q | exact fun z => q z | (simpa using q))] at g; exact g _ _ _ _ _ _ _ _ _ _ _ _ _ _ _ _ _ _ _ _ hA hH) (fun q => by rw [if_neg (by first | exact q | exact fun z => q z | (simpa using q))] at g; exact g _ _ _ _ _ _ _ _ _ _ _ _ _ _ _ _ _ _ _ _ hA hH)
theorem Go.if_ge {x : Int32} {off : Int} {t : Nat} (hd : decode M.2.1 pc = .ok (.ifCond .ge off, 3)) (ht : (pc : Int) + off = (t : Int)) (g : if 0 ≤ x then Go M d w0n t lv st w rc rs Q else Go M d w0n (pc + 3) lv st w rc rs Q) : Go M d w0n pc lv (.int x :: st) w rc rs Q := by
  intro p l e s m args below meth c dC dI dA loc0 w0 H locs cells slots loc ls hA hH
  exact lv_if_ge hA.1 hA.2.1 hd ht (fun q => by rw [if_pos (by first | exact q | exact fun z => q z | (simpa using q))] at g; exact g _ _ _ _ _ _ _ _ _ _ _ _ _ _ _ _ _ _ _ _ hA hH) (fun q => by rw [if_neg (by first | exact q | exact fun z => q z | (simpa using q))] at g; exact g _ _ _ _ _ _ _ _ _ _ _ _ _ _ _ _ _ _ _ _ hA hH)
theorem Go.icmp_gt {x y : Int32} {off : Int} {t : Nat} (hd : decode M.2.1 pc = .ok (.if_icmp .gt off, 3)) (ht : (pc : Int) + off = (t : Int)) (g : if y < x then Go M d w0n t lv st w rc rs Q else Go M d w0n (pc + 3) lv st w rc rs Q) : Go M d w0n pc lv (.int y :: .int x :: st) w rc rs Q := by
  intro p l e s m args below meth c dC dI dA loc0 w0 H locs cells slots loc ls hA hH
  exact lv_icmp_gt hA.1 hA.2.1 hd ht (fun q => by rw [if_pos (by first | exact q | exact fun z => q z | (simpa using q))] at g; exact g _ _ _ _ _ _ _ _ _ _ _ _ _ _ _ _ _ _ _ _ hA hH) (fun q => by rw [if_neg (by first | exact q | exact fun z => q z | (simpa using q))] at g; exact g _ _ _ _ _ _ _ _ _ _ _ _ _ _ _ _ _ _ _ _ hA hH)
theorem Go.if_gt {x : Int32} {off : Int} {t : Nat} (hd : decode M.2.1 pc = .ok (.ifCond .gt off, 3)) (ht : (pc : Int) + off = (t : Int)) (g : if 0 < x then Go M d w0n t lv st w rc rs Q else Go M d w0n (pc + 3) lv st w rc rs Q) : Go M d w0n pc lv (.int x :: st) w rc rs Q := by
  intro p l e s m args below meth c dC dI dA loc0 w0 H locs cells slots loc ls hA hH
  exact lv_if_gt hA.1 hA.2.1 hd ht (fun q => by rw [if_pos (by first | exact q | exact fun z => q z | (simpa using q))] at g; exact g _ _ _ _ _ _ _ _ _ _ _ _ _ _ _ _ _ _ _ _ hA hH) (fun q => by rw [if_neg (by first | exact q | exact fun z => q z | (simpa using q))] at g; exact g _ _ _ _ _ _ _ _ _ _ _ _ _ _ _ _ _ _ _ _ hA hH)
theorem Go.icmp_le {x y : Int32} {off : Int} {t : Nat} (hd : decode M.2.1 pc = .ok (.if_icmp .le off, 3)) (ht : (pc : Int) + off = (t : Int)) (g : if x ≤ y then Go M d w0n t lv st w rc rs Q else Go M d w0n (pc + 3) lv st w rc rs Q) : Go M d w0n pc lv (.int y :: .int x :: st) w rc rs Q := by
  intro p l e s m args below meth c dC dI dA loc0 w0 H locs cells slots loc ls hA hH
  exact lv_icmp_le hA.1 hA.2.1 hd ht (fun q => by rw [if_pos (by first | exact q | exact fun z => q z | (simpa using q))] at g; exact g _ _ _ _ _ _ _ _ _ _ _ _ _ _ _ _ _ _ _ _ hA hH) (fun q => by rw [if_neg (by first | exact q | exact fun z => q z | (simpa using q))] at g; exact g _ _ _ _ _ _ _ _ _ _ _ _ _ _ _ _ _ _ _ _ hA hH)
theorem Go.if_le {x : Int32} {off : Int} {t : Nat} (hd : decode M.2.1 pc = .ok (.ifCond .le off, 3)) (ht : (pc : Int) + off = (t : Int)) (g : if x ≤ 0 then Go M d w0n t lv st w rc rs Q else Go M d w0n (pc + 3) lv st w rc rs Q) : Go M d w0n pc lv (.int x :: st) w rc rs Q := by
  intro p l e s m args below meth c dC dI dA loc0 w0 H locs cells slots loc ls hA hH
  exact lv_if_le hA.1 hA.2.1 hd ht (fun q => by rw [if_pos (by first | exact q | exact fun z => q z | (simpa using q))] at g; exact g _ _ _ _ _ _ _ _ _ _ _ _ _ _ _ _ _ _ _ _ hA hH) (fun q => by rw [if_neg (by first | exact q | exact fun z => q z | (simpa using q))] at g; exact g _ _ _ _ _ _ _ _ _ _ _ _ _ _ _ _ _ _ _ _ hA hH)
end ZI
