section Z4
variable {g : zG} {d : Nat} {M : zM} {T0 T T' : zT} {pc : Nat} {ls : List (Option Value)} {st : List Value} {S S' : zS} {v : Option Value}
theorem z_iadd {x y r : Int32} (hd : decode M.2.2.1 pc = .ok (.iadd, 1)) (hr : (x + y) = r) (k : zg g d M T0 (pc + 1) ls (.int r :: st) T S v T' S') : zg g d M T0 pc ls (.int y :: .int x :: st) T S v T' S' := by subst hr; exact fun p l e s m args below meth c H locs la C hA hS hz h1 hl => lv_iadd C.1 C.2.1 hd (k p l e s m args below meth c H locs la C hA hS hz h1 hl)
theorem z_isub {x y r : Int32} (hd : decode M.2.2.1 pc = .ok (.isub, 1)) (hr : (x - y) = r) (k : zg g d M T0 (pc + 1) ls (.int r :: st) T S v T' S') : zg g d M T0 pc ls (.int y :: .int x :: st) T S v T' S' := by subst hr; exact fun p l e s m args below meth c H locs la C hA hS hz h1 hl => lv_isub C.1 C.2.1 hd (k p l e s m args below meth c H locs la C hA hS hz h1 hl)
theorem z_imul {x y r : Int32} (hd : decode M.2.2.1 pc = .ok (.imul, 1)) (hr : (x * y) = r) (k : zg g d M T0 (pc + 1) ls (.int r :: st) T S v T' S') : zg g d M T0 pc ls (.int y :: .int x :: st) T S v T' S' := by subst hr; exact fun p l e s m args below meth c H locs la C hA hS hz h1 hl => lv_imul C.1 C.2.1 hd (k p l e s m args below meth c H locs la C hA hS hz h1 hl)
theorem z_iand {x y r : Int32} (hd : decode M.2.2.1 pc = .ok (.iand, 1)) (hr : (x &&& y) = r) (k : zg g d M T0 (pc + 1) ls (.int r :: st) T S v T' S') : zg g d M T0 pc ls (.int y :: .int x :: st) T S v T' S' := by subst hr; exact fun p l e s m args below meth c H locs la C hA hS hz h1 hl => lv_iand C.1 C.2.1 hd (k p l e s m args below meth c H locs la C hA hS hz h1 hl)
theorem z_ior {x y r : Int32} (hd : decode M.2.2.1 pc = .ok (.ior, 1)) (hr : (x ||| y) = r) (k : zg g d M T0 (pc + 1) ls (.int r :: st) T S v T' S') : zg g d M T0 pc ls (.int y :: .int x :: st) T S v T' S' := by subst hr; exact fun p l e s m args below meth c H locs la C hA hS hz h1 hl => lv_ior C.1 C.2.1 hd (k p l e s m args below meth c H locs la C hA hS hz h1 hl)
theorem z_ixor {x y r : Int32} (hd : decode M.2.2.1 pc = .ok (.ixor, 1)) (hr : (x ^^^ y) = r) (k : zg g d M T0 (pc + 1) ls (.int r :: st) T S v T' S') : zg g d M T0 pc ls (.int y :: .int x :: st) T S v T' S' := by subst hr; exact fun p l e s m args below meth c H locs la C hA hS hz h1 hl => lv_ixor C.1 C.2.1 hd (k p l e s m args below meth c H locs la C hA hS hz h1 hl)
theorem z_ishl {x y r : Int32} (hd : decode M.2.2.1 pc = .ok (.ishl, 1)) (hr : (x <<< (y &&& 31)) = r) (k : zg g d M T0 (pc + 1) ls (.int r :: st) T S v T' S') : zg g d M T0 pc ls (.int y :: .int x :: st) T S v T' S' := by subst hr; exact fun p l e s m args below meth c H locs la C hA hS hz h1 hl => lv_ishl C.1 C.2.1 hd (k p l e s m args below meth c H locs la C hA hS hz h1 hl)
theorem z_ishr {x y r : Int32} (hd : decode M.2.2.1 pc = .ok (.ishr, 1)) (hr : (x >>> (y &&& 31)) = r) (k : zg g d M T0 (pc + 1) ls (.int r :: st) T S v T' S') : zg g d M T0 pc ls (.int y :: .int x :: st) T S v T' S' := by subst hr; exact fun p l e s m args below meth c H locs la C hA hS hz h1 hl => lv_ishr C.1 C.2.1 hd (k p l e s m args below meth c H locs la C hA hS hz h1 hl)
theorem z_idiv {x y r : Int32} (hd : decode M.2.2.1 pc = .ok (.idiv, 1)) (hne : ¬ y = 0) (hr : (x / y) = r) (k : zg g d M T0 (pc + 1) ls (.int r :: st) T S v T' S') : zg g d M T0 pc ls (.int y :: .int x :: st) T S v T' S' := by subst hr; exact fun p l e s m args below meth c H locs la C hA hS hz h1 hl => lv_idiv C.1 C.2.1 hd hne (k p l e s m args below meth c H locs la C hA hS hz h1 hl)
theorem z_irem {x y r : Int32} (hd : decode M.2.2.1 pc = .ok (.irem, 1)) (hne : ¬ y = 0) (hr : (x - x / y * y) = r) (k : zg g d M T0 (pc + 1) ls (.int r :: st) T S v T' S') : zg g d M T0 pc ls (.int y :: .int x :: st) T S v T' S' := by subst hr; exact fun p l e s m args below meth c H locs la C hA hS hz h1 hl => lv_irem C.1 C.2.1 hd hne (k p l e s m args below meth c H locs la C hA hS hz h1 hl)
theorem z_ladd {x y r : Int64} (hd : decode M.2.2.1 pc = .ok (.ladd, 1)) (hr : (x + y) = r) (k : zg g d M T0 (pc + 1) ls (.long r :: st) T S v T' S') : zg g d M T0 pc ls (.long y :: .long x :: st) T S v T' S' := by subst hr; exact fun p l e s m args below meth c H locs la C hA hS hz h1 hl => lv_ladd C.1 C.2.1 hd (k p l e s m args below meth c H locs la C hA hS hz h1 hl)
theorem z_lsub {x y r : Int64} (hd : decode M.2.2.1 pc = .ok (.lsub, 1)) (hr : (x - y) = r) (k : zg g d M T0 (pc + 1) ls (.long r :: st) T S v T' S') : zg g d M T0 pc ls (.long y :: .long x :: st) T S v T' S' := by subst hr; exact fun p l e s m args below meth c H locs la C hA hS hz h1 hl => lv_lsub C.1 C.2.1 hd (k p l e s m args below meth c H locs la C hA hS hz h1 hl)
theorem z_lmul {x y r : Int64} (hd : decode M.2.2.1 pc = .ok (.lmul, 1)) (hr : (x * y) = r) (k : zg g d M T0 (pc + 1) ls (.long r :: st) T S v T' S') : zg g d M T0 pc ls (.long y :: .long x :: st) T S v T' S' := by subst hr; exact fun p l e s m args below meth c H locs la C hA hS hz h1 hl => lv_lmul C.1 C.2.1 hd (k p l e s m args below meth c H locs la C hA hS hz h1 hl)
theorem z_land {x y r : Int64} (hd : decode M.2.2.1 pc = .ok (.land, 1)) (hr : (x &&& y) = r) (k : zg g d M T0 (pc + 1) ls (.long r :: st) T S v T' S') : zg g d M T0 pc ls (.long y :: .long x :: st) T S v T' S' := by subst hr; exact fun p l e s m args below meth c H locs la C hA hS hz h1 hl => lv_land C.1 C.2.1 hd (k p l e s m args below meth c H locs la C hA hS hz h1 hl)
theorem z_lor {x y r : Int64} (hd : decode M.2.2.1 pc = .ok (.lor, 1)) (hr : (x ||| y) = r) (k : zg g d M T0 (pc + 1) ls (.long r :: st) T S v T' S') : zg g d M T0 pc ls (.long y :: .long x :: st) T S v T' S' := by subst hr; exact fun p l e s m args below meth c H locs la C hA hS hz h1 hl => lv_lor C.1 C.2.1 hd (k p l e s m args below meth c H locs la C hA hS hz h1 hl)
theorem z_ldiv {x y r : Int64} (hd : decode M.2.2.1 pc = .ok (.ldiv, 1)) (hne : ¬ y = 0) (hr : (x / y) = r) (k : zg g d M T0 (pc + 1) ls (.long r :: st) T S v T' S') : zg g d M T0 pc ls (.long y :: .long x :: st) T S v T' S' := by subst hr; exact fun p l e s m args below meth c H locs la C hA hS hz h1 hl => lv_ldiv C.1 C.2.1 hd hne (k p l e s m args below meth c H locs la C hA hS hz h1 hl)
theorem z_lrem {x y r : Int64} (hd : decode M.2.2.1 pc = .ok (.lrem, 1)) (hne : ¬ y = 0) (hr : (x - x / y * y) = r) (k : zg g d M T0 (pc + 1) ls (.long r :: st) T S v T' S') : zg g d M T0 pc ls (.long y :: .long x :: st) T S v T' S' := by subst hr; exact fun p l e s m args below meth c H locs la C hA hS hz h1 hl => lv_lrem C.1 C.2.1 hd hne (k p l e s m args below meth c H locs la C hA hS hz h1 hl)
theorem z_ineg {x r : Int32} (hd : decode M.2.2.1 pc = .ok (.ineg, 1)) (hr : (-x) = r) (k : zg g d M T0 (pc + 1) ls (.int r :: st) T S v T' S') : zg g d M T0 pc ls (.int x :: st) T S v T' S' := by subst hr; exact fun p l e s m args below meth c H locs la C hA hS hz h1 hl => lv_ineg C.1 C.2.1 hd (k p l e s m args below meth c H locs la C hA hS hz h1 hl)
theorem z_iushr {x y r : Int32} (hd : decode M.2.2.1 pc = .ok (.iushr, 1)) (hr : (x.toUInt32 >>> (y.toUInt32 &&& Int32.toUInt32 31)).toInt32 = r) (k : zg g d M T0 (pc + 1) ls (.int r :: st) T S v T' S') : zg g d M T0 pc ls (.int y :: .int x :: st) T S v T' S' := fun p l e s m args below meth c H locs la C hA hS hz h1 hl => lv_iushr C.1 C.2.1 hd hr (k p l e s m args below meth c H locs la C hA hS hz h1 hl)
theorem z_lshl {x r : Int64} {y : Int32} (hd : decode M.2.2.1 pc = .ok (.lshl, 1)) (hr : x <<< (y.toInt64 &&& 63) = r) (k : zg g d M T0 (pc + 1) ls (.long r :: st) T S v T' S') : zg g d M T0 pc ls (.int y :: .long x :: st) T S v T' S' := fun p l e s m args below meth c H locs la C hA hS hz h1 hl => lv_lshl C.1 C.2.1 hd hr (k p l e s m args below meth c H locs la C hA hS hz h1 hl)
theorem z_lshr {x r : Int64} {y : Int32} (hd : decode M.2.2.1 pc = .ok (.lshr, 1)) (hr : x >>> (y.toInt64 &&& 63) = r) (k : zg g d M T0 (pc + 1) ls (.long r :: st) T S v T' S') : zg g d M T0 pc ls (.int y :: .long x :: st) T S v T' S' := fun p l e s m args below meth c H locs la C hA hS hz h1 hl => lv_lshr C.1 C.2.1 hd hr (k p l e s m args below meth c H locs la C hA hS hz h1 hl)
theorem z_i2l {x : Int32} {r : Int64} (hd : decode M.2.2.1 pc = .ok (.i2l, 1)) (hr : x.toInt64 = r) (k : zg g d M T0 (pc + 1) ls (.long r :: st) T S v T' S') : zg g d M T0 pc ls (.int x :: st) T S v T' S' := fun p l e s m args below meth c H locs la C hA hS hz h1 hl => lv_i2l C.1 C.2.1 hd hr (k p l e s m args below meth c H locs la C hA hS hz h1 hl)
theorem z_l2i {x : Int64} {r : Int32} (hd : decode M.2.2.1 pc = .ok (.l2i, 1)) (hr : x.toInt32 = r) (k : zg g d M T0 (pc + 1) ls (.int r :: st) T S v T' S') : zg g d M T0 pc ls (.long x :: st) T S v T' S' := fun p l e s m args below meth c H locs la C hA hS hz h1 hl => lv_l2i C.1 C.2.1 hd hr (k p l e s m args below meth c H locs la C hA hS hz h1 hl)
theorem z_i2b {x : Int32} {r : Int32} (hd : decode M.2.2.1 pc = .ok (.i2b, 1)) (hr : x.toInt8.toInt32 = r) (k : zg g d M T0 (pc + 1) ls (.int r :: st) T S v T' S') : zg g d M T0 pc ls (.int x :: st) T S v T' S' := fun p l e s m args below meth c H locs la C hA hS hz h1 hl => lv_i2b C.1 C.2.1 hd hr (k p l e s m args below meth c H locs la C hA hS hz h1 hl)
theorem z_lcmp {x y : Int64} {r : Int32} (hd : decode M.2.2.1 pc = .ok (.lcmp, 1)) (hr : lg_cmp x y = r) (k : zg g d M T0 (pc + 1) ls (.int r :: st) T S v T' S') : zg g d M T0 pc ls (.long y :: .long x :: st) T S v T' S' := by subst hr; exact fun p l e s m args below meth c H locs la C hA hS hz h1 hl => W.lcmp C.1 C.2.1 hd (k p l e s m args below meth c H locs la C hA hS hz h1 hl)
theorem z_iconst {n : Int} {r : Int32} (hd : decode M.2.2.1 pc = .ok (.iconst n, 1)) (hr : Int32.ofInt n = r) (k : zg g d M T0 (pc + 1) ls (.int r :: st) T S v T' S') : zg g d M T0 pc ls st T S v T' S' := fun p l e s m args below meth c H locs la C hA hS hz h1 hl => lv_iconst C.1 C.2.1 hd hr (k p l e s m args below meth c H locs la C hA hS hz h1 hl)
theorem z_bipush {n : Int} {r : Int32} (hd : decode M.2.2.1 pc = .ok (.bipush n, 2)) (hr : (Int8.ofInt n).toInt32 = r) (k : zg g d M T0 (pc + 2) ls (.int r :: st) T S v T' S') : zg g d M T0 pc ls st T S v T' S' := fun p l e s m args below meth c H locs la C hA hS hz h1 hl => lv_bipush C.1 C.2.1 hd hr (k p l e s m args below meth c H locs la C hA hS hz h1 hl)
theorem z_sipush {n : Int} {r : Int32} (hd : decode M.2.2.1 pc = .ok (.sipush n, 3)) (hr : (Int16.ofInt n).toInt32 = r) (k : zg g d M T0 (pc + 3) ls (.int r :: st) T S v T' S') : zg g d M T0 pc ls st T S v T' S' := fun p l e s m args below meth c H locs la C hA hS hz h1 hl => lv_sipush C.1 C.2.1 hd hr (k p l e s m args below meth c H locs la C hA hS hz h1 hl)
theorem z_lconst {n : Fin 2} {r : Int64} (hd : decode M.2.2.1 pc = .ok (.lconst n, 1)) (hr : Int64.ofNat (n : Nat) = r) (k : zg g d M T0 (pc + 1) ls (.long r :: st) T S v T' S') : zg g d M T0 pc ls st T S v T' S' := fun p l e s m args below meth c H locs la C hA hS hz h1 hl => lv_lconst C.1 C.2.1 hd hr (k p l e s m args below meth c H locs la C hA hS hz h1 hl)
theorem z_ldc {i : Nat} {r : Int32} (hc : Cond.constant M.1 i r ∈ zTb) (hd : decode M.2.2.1 pc = .ok (.ldc i, 2)) (k : zg g d M T0 (pc + 2) ls (.int r :: st) T S v T' S') : zg g d M T0 pc ls st T S v T' S' := fun p l e s m args below meth c H locs la C hA hS hz h1 hl => lv_ldc C.1 C.2.1 C.2.2.2.2.1 (C.2.2.2.2.2.1 _ hc) hd (k p l e s m args below meth c H locs la C hA hS hz h1 hl)
theorem z_ldcw {i : Nat} {r : Int32} (hc : Cond.constant M.1 i r ∈ zTb) (hd : decode M.2.2.1 pc = .ok (.ldc_w i, 3)) (k : zg g d M T0 (pc + 3) ls (.int r :: st) T S v T' S') : zg g d M T0 pc ls st T S v T' S' := fun p l e s m args below meth c H locs la C hA hS hz h1 hl => lv_ldcw C.1 C.2.1 C.2.2.2.2.1 (C.2.2.2.2.2.1 _ hc) hd (k p l e s m args below meth c H locs la C hA hS hz h1 hl)
theorem z_ldc2 {i : Nat} {r : Int64} (hc : Cond.constantLong M.1 i r ∈ zTb) (hd : decode M.2.2.1 pc = .ok (.ldc2_w i, 3)) (k : zg g d M T0 (pc + 3) ls (.long r :: st) T S v T' S') : zg g d M T0 pc ls st T S v T' S' := fun p l e s m args below meth c H locs la C hA hS hz h1 hl => lv_ldc2 C.1 C.2.1 C.2.2.2.2.1 (C.2.2.2.2.2.1 _ hc) hd (k p l e s m args below meth c H locs la C hA hS hz h1 hl)
theorem z_dup {x : Value} (hd : decode M.2.2.1 pc = .ok (.dup, 1)) (hx : x.category = 1) (k : zg g d M T0 (pc + 1) ls (x :: x :: st) T S v T' S') : zg g d M T0 pc ls (x :: st) T S v T' S' := fun p l e s m args below meth c H locs la C hA hS hz h1 hl => lv_dup C.1 C.2.1 hd ((zv_cat g x).trans hx) (k p l e s m args below meth c H locs la C hA hS hz h1 hl)
theorem z_dup2 {x y : Value} (hd : decode M.2.2.1 pc = .ok (.dup2, 1)) (hx : x.category = 1) (hy : y.category = 1) (k : zg g d M T0 (pc + 1) ls (x :: y :: x :: y :: st) T S v T' S') : zg g d M T0 pc ls (x :: y :: st) T S v T' S' := fun p l e s m args below meth c H locs la C hA hS hz h1 hl => lv_dup2_11 C.1 C.2.1 hd ((zv_cat g x).trans hx) ((zv_cat g y).trans hy) (k p l e s m args below meth c H locs la C hA hS hz h1 hl)
theorem z_pop {x : Value} (hd : decode M.2.2.1 pc = .ok (.pop, 1)) (hx : x.category = 1) (k : zg g d M T0 (pc + 1) ls st T S v T' S') : zg g d M T0 pc ls (x :: st) T S v T' S' := fun p l e s m args below meth c H locs la C hA hS hz h1 hl => lv_pop C.1 C.2.1 hd ((zv_cat g x).trans hx) (k p l e s m args below meth c H locs la C hA hS hz h1 hl)
theorem z_goto {off : Int} {tgt : Nat} (hd : decode M.2.2.1 pc = .ok (.goto off, 3)) (ht : (pc : Int) + off = (tgt : Int)) (k : zg g d M T0 tgt ls st T S v T' S') : zg g d M T0 pc ls st T S v T' S' := fun p l e s m args below meth c H locs la C hA hS hz h1 hl => lv_goto C.1 C.2.1 hd ht (k p l e s m args below meth c H locs la C hA hS hz h1 hl)
theorem z_if_eq {x : Int32} {off : Int} {tgt : Nat} (hd : decode M.2.2.1 pc = .ok (.ifCond .eq off, 3)) (ht : (pc : Int) + off = (tgt : Int)) (kt : x = 0 → zg g d M T0 tgt ls st T S v T' S') (kf : ¬ x = 0 → zg g d M T0 (pc + 3) ls st T S v T' S') : zg g d M T0 pc ls (.int x :: st) T S v T' S' := fun p l e s m args below meth c H locs la C hA hS hz h1 hl => lv_if_eq C.1 C.2.1 hd ht (fun q => kt q p l e s m args below meth c H locs la C hA hS hz h1 hl) (fun q => kf q p l e s m args below meth c H locs la C hA hS hz h1 hl)
theorem z_icmp_eq {x y : Int32} {off : Int} {tgt : Nat} (hd : decode M.2.2.1 pc = .ok (.if_icmp .eq off, 3)) (ht : (pc : Int) + off = (tgt : Int)) (kt : x = y → zg g d M T0 tgt ls st T S v T' S') (kf : ¬ x = y → zg g d M T0 (pc + 3) ls st T S v T' S') : zg g d M T0 pc ls (.int y :: .int x :: st) T S v T' S' := fun p l e s m args below meth c H locs la C hA hS hz h1 hl => lv_icmp_eq C.1 C.2.1 hd ht (fun q => kt q p l e s m args below meth c H locs la C hA hS hz h1 hl) (fun q => kf q p l e s m args below meth c H locs la C hA hS hz h1 hl)
theorem z_if_ne {x : Int32} {off : Int} {tgt : Nat} (hd : decode M.2.2.1 pc = .ok (.ifCond .ne off, 3)) (ht : (pc : Int) + off = (tgt : Int)) (kt : ¬ x = 0 → zg g d M T0 tgt ls st T S v T' S') (kf : x = 0 → zg g d M T0 (pc + 3) ls st T S v T' S') : zg g d M T0 pc ls (.int x :: st) T S v T' S' := fun p l e s m args below meth c H locs la C hA hS hz h1 hl => lv_if_ne C.1 C.2.1 hd ht (fun q => kt q p l e s m args below meth c H locs la C hA hS hz h1 hl) (fun q => kf q p l e s m args below meth c H locs la C hA hS hz h1 hl)
theorem z_icmp_ne {x y : Int32} {off : Int} {tgt : Nat} (hd : decode M.2.2.1 pc = .ok (.if_icmp .ne off, 3)) (ht : (pc : Int) + off = (tgt : Int)) (kt : ¬ x = y → zg g d M T0 tgt ls st T S v T' S') (kf : x = y → zg g d M T0 (pc + 3) ls st T S v T' S') : zg g d M T0 pc ls (.int y :: .int x :: st) T S v T' S' := fun p l e s m args below meth c H locs la C hA hS hz h1 hl => lv_icmp_ne C.1 C.2.1 hd ht (fun q => kt q p l e s m args below meth c H locs la C hA hS hz h1 hl) (fun q => kf q p l e s m args below meth c H locs la C hA hS hz h1 hl)
theorem z_if_lt {x : Int32} {off : Int} {tgt : Nat} (hd : decode M.2.2.1 pc = .ok (.ifCond .lt off, 3)) (ht : (pc : Int) + off = (tgt : Int)) (kt : x < 0 → zg g d M T0 tgt ls st T S v T' S') (kf : ¬ x < 0 → zg g d M T0 (pc + 3) ls st T S v T' S') : zg g d M T0 pc ls (.int x :: st) T S v T' S' := fun p l e s m args below meth c H locs la C hA hS hz h1 hl => lv_if_lt C.1 C.2.1 hd ht (fun q => kt q p l e s m args below meth c H locs la C hA hS hz h1 hl) (fun q => kf q p l e s m args below meth c H locs la C hA hS hz h1 hl)
theorem z_icmp_lt {x y : Int32} {off : Int} {tgt : Nat} (hd : decode M.2.2.1 pc = .ok (.if_icmp .lt off, 3)) (ht : (pc : Int) + off = (tgt : Int)) (kt : x < y → zg g d M T0 tgt ls st T S v T' S') (kf : ¬ x < y → zg g d M T0 (pc + 3) ls st T S v T' S') : zg g d M T0 pc ls (.int y :: .int x :: st) T S v T' S' := fun p l e s m args below meth c H locs la C hA hS hz h1 hl => lv_icmp_lt C.1 C.2.1 hd ht (fun q => kt q p l e s m args below meth c H locs la C hA hS hz h1 hl) (fun q => kf q p l e s m args below meth c H locs la C hA hS hz h1 hl)
theorem z_if_ge {x : Int32} {off : Int} {tgt : Nat} (hd : decode M.2.2.1 pc = .ok (.ifCond .ge off, 3)) (ht : (pc : Int) + off = (tgt : Int)) (kt : 0 ≤ x → zg g d M T0 tgt ls st T S v T' S') (kf : ¬ 0 ≤ x → zg g d M T0 (pc + 3) ls st T S v T' S') : zg g d M T0 pc ls (.int x :: st) T S v T' S' := fun p l e s m args below meth c H locs la C hA hS hz h1 hl => lv_if_ge C.1 C.2.1 hd ht (fun q => kt q p l e s m args below meth c H locs la C hA hS hz h1 hl) (fun q => kf q p l e s m args below meth c H locs la C hA hS hz h1 hl)
theorem z_icmp_ge {x y : Int32} {off : Int} {tgt : Nat} (hd : decode M.2.2.1 pc = .ok (.if_icmp .ge off, 3)) (ht : (pc : Int) + off = (tgt : Int)) (kt : y ≤ x → zg g d M T0 tgt ls st T S v T' S') (kf : ¬ y ≤ x → zg g d M T0 (pc + 3) ls st T S v T' S') : zg g d M T0 pc ls (.int y :: .int x :: st) T S v T' S' := fun p l e s m args below meth c H locs la C hA hS hz h1 hl => lv_icmp_ge C.1 C.2.1 hd ht (fun q => kt q p l e s m args below meth c H locs la C hA hS hz h1 hl) (fun q => kf q p l e s m args below meth c H locs la C hA hS hz h1 hl)
theorem z_if_gt {x : Int32} {off : Int} {tgt : Nat} (hd : decode M.2.2.1 pc = .ok (.ifCond .gt off, 3)) (ht : (pc : Int) + off = (tgt : Int)) (kt : 0 < x → zg g d M T0 tgt ls st T S v T' S') (kf : ¬ 0 < x → zg g d M T0 (pc + 3) ls st T S v T' S') : zg g d M T0 pc ls (.int x :: st) T S v T' S' := fun p l e s m args below meth c H locs la C hA hS hz h1 hl => lv_if_gt C.1 C.2.1 hd ht (fun q => kt q p l e s m args below meth c H locs la C hA hS hz h1 hl) (fun q => kf q p l e s m args below meth c H locs la C hA hS hz h1 hl)
theorem z_icmp_gt {x y : Int32} {off : Int} {tgt : Nat} (hd : decode M.2.2.1 pc = .ok (.if_icmp .gt off, 3)) (ht : (pc : Int) + off = (tgt : Int)) (kt : y < x → zg g d M T0 tgt ls st T S v T' S') (kf : ¬ y < x → zg g d M T0 (pc + 3) ls st T S v T' S') : zg g d M T0 pc ls (.int y :: .int x :: st) T S v T' S' := fun p l e s m args below meth c H locs la C hA hS hz h1 hl => lv_icmp_gt C.1 C.2.1 hd ht (fun q => kt q p l e s m args below meth c H locs la C hA hS hz h1 hl) (fun q => kf q p l e s m args below meth c H locs la C hA hS hz h1 hl)
theorem z_if_le {x : Int32} {off : Int} {tgt : Nat} (hd : decode M.2.2.1 pc = .ok (.ifCond .le off, 3)) (ht : (pc : Int) + off = (tgt : Int)) (kt : x ≤ 0 → zg g d M T0 tgt ls st T S v T' S') (kf : ¬ x ≤ 0 → zg g d M T0 (pc + 3) ls st T S v T' S') : zg g d M T0 pc ls (.int x :: st) T S v T' S' := fun p l e s m args below meth c H locs la C hA hS hz h1 hl => lv_if_le C.1 C.2.1 hd ht (fun q => kt q p l e s m args below meth c H locs la C hA hS hz h1 hl) (fun q => kf q p l e s m args below meth c H locs la C hA hS hz h1 hl)
theorem z_icmp_le {x y : Int32} {off : Int} {tgt : Nat} (hd : decode M.2.2.1 pc = .ok (.if_icmp .le off, 3)) (ht : (pc : Int) + off = (tgt : Int)) (kt : x ≤ y → zg g d M T0 tgt ls st T S v T' S') (kf : ¬ x ≤ y → zg g d M T0 (pc + 3) ls st T S v T' S') : zg g d M T0 pc ls (.int y :: .int x :: st) T S v T' S' := fun p l e s m args below meth c H locs la C hA hS hz h1 hl => lv_icmp_le C.1 C.2.1 hd ht (fun q => kt q p l e s m args below meth c H locs la C hA hS hz h1 hl) (fun q => kf q p l e s m args below meth c H locs la C hA hS hz h1 hl)
theorem z_tableOut {dflt lo hi : Int} {offs : Array Int} {len : Nat} {x : Int32} {tgt : Nat} (hd : decode M.2.2.1 pc = .ok (.tableswitch dflt lo hi offs, len)) (h : x.toInt < lo ∨ hi < x.toInt) (ht : (pc : Int) + dflt = (tgt : Int)) (k : zg g d M T0 tgt ls st T S v T' S') : zg g d M T0 pc ls (.int x :: st) T S v T' S' := fun p l e s m args below meth c H locs la C hA hS hz h1 hl => lv_tableOut C.1 C.2.1 hd h ht (k p l e s m args below meth c H locs la C hA hS hz h1 hl)
theorem z_tableIn {dflt lo hi : Int} {offs : Array Int} {len : Nat} {x : Int32} {off : Int} {tgt : Nat} (hd : decode M.2.2.1 pc = .ok (.tableswitch dflt lo hi offs, len)) (q1 : ¬ x.toInt < lo) (q2 : ¬ hi < x.toInt) (ho : offs[(x.toInt - lo).toNat]? = some off) (ht : (pc : Int) + off = (tgt : Int)) (k : zg g d M T0 tgt ls st T S v T' S') : zg g d M T0 pc ls (.int x :: st) T S v T' S' := fun p l e s m args below meth c H locs la C hA hS hz h1 hl => lv_tableIn C.1 C.2.1 hd q1 q2 ho ht (k p l e s m args below meth c H locs la C hA hS hz h1 hl)
theorem z_lookup {dflt : Int} {ps : Array (Int × Int)} {len : Nat} {x : Int32} {off : Int} {tgt : Nat} (hd : decode M.2.2.1 pc = .ok (.lookupswitch dflt ps, len)) (hp : (ps.toList.zip (ps.toList.drop 1)).all (fun (a, next) => a.1 < next.1) = true) (ho : Op.lookupswitch.offset ps.toList dflt x.toInt = off) (ht : (pc : Int) + off = (tgt : Int)) (k : zg g d M T0 tgt ls st T S v T' S') : zg g d M T0 pc ls (.int x :: st) T S v T' S' := fun p l e s m args below meth c H locs la C hA hS hz h1 hl => lv_lookup C.1 C.2.1 hd hp ho ht (k p l e s m args below meth c H locs la C hA hS hz h1 hl)
theorem z_ti {x y : Int32} (h : y = x) (k : zg g d M T0 pc ls (.int y :: st) T S v T' S') : zg g d M T0 pc ls (.int x :: st) T S v T' S' := h ▸ k
theorem z_tl {x y : Int64} (h : y = x) (k : zg g d M T0 pc ls (.long y :: st) T S v T' S') : zg g d M T0 pc ls (.long x :: st) T S v T' S' := h ▸ k
theorem z_tS {X : zS} (h : X = S) (k : zg g d M T0 pc ls st T X v T' S') : zg g d M T0 pc ls st T S v T' S' := h ▸ k
end Z4
theorem zas_mem {g : zG} : ∀ (ls : List (Option Value)) (b : Nat) (q : Nat × Value), q ∈ zas g b ls ↔ ∃ (k : Nat) (w : Value), ls[k]? = some (some w) ∧ q = (b + k, zv g w) := by
  intro ls
  induction ls with
  | nil => intro b q; simp [zas]
  | cons a l ih =>
    intro b q
    have key : (∃ (k : Nat) (w : Value), (a :: l)[k]? = some (some w) ∧ q = (b + k, zv g w)) ↔ ((∃ w, a = some w ∧ q = (b, zv g w)) ∨ ∃ (k : Nat) (w : Value), l[k]? = some (some w) ∧ q = (b + 1 + k, zv g w)) := by
      constructor
      · rintro ⟨k, w, h1, h2⟩
        cases k with
        | zero =>
          refine Or.inl ⟨w, ?_, h2⟩
          simpa using h1
        | succ k =>
          refine Or.inr ⟨k, w, by simpa using h1, ?_⟩
          rw [h2]
          congr 1
          omega
      · rintro (⟨w, h1, h2⟩ | ⟨k, w, h1, h2⟩)
        · exact ⟨0, w, by simp [h1], h2⟩
        · refine ⟨k + 1, w, by simpa using h1, ?_⟩
          rw [h2]
          congr 1
          omega
    rw [key]
    cases a with
    | none =>
      show q ∈ zas g (b + 1) l ↔ _
      rw [ih]
      constructor
      · exact Or.inr
      · rintro (⟨w, h, -⟩ | h)
        · cases h
        · exact h
    | some w =>
      show q ∈ (b, zv g w) :: zas g (b + 1) l ↔ _
      rw [List.mem_cons, ih]
      constructor
      · rintro (h | h)
        · exact Or.inl ⟨w, rfl, h⟩
        · exact Or.inr h
      · rintro (⟨w', h, h2⟩ | h)
        · cases h
          exact Or.inl h2
        · exact Or.inr h
theorem zas_at {g : zG} {la : Array Slot} {nL : Nat} {ls : List (Option Value)} (h : lv_has la nL (zas g 0 ls)) {k : Nat} {w : Value} (hk : ls[k]? = some (some w)) : la[k]? = some (.val (zv g w)) := by
  have := h.2.2 (0 + k, zv g w) ((zas_mem ls 0 _).mpr ⟨k, w, hk, rfl⟩)
  simpa using this
theorem lv_has_sub {la : Array Slot} {nL : Nat} {l l' : List (Nat × Value)} (h : lv_has la nL l) (hs : ∀ q ∈ l', q ∈ l) : lv_has la nL l' := ⟨h.1, h.2.1, fun q hq => h.2.2 q (hs q hq)⟩
/-- no long stands right ahead of place i -/
def zpre (ls : List (Option Value)) : Nat → Bool
  | 0 => true
  | i + 1 => match ls[i]? with
    | some (some w) => w.category == 1
    | _ => true
theorem zpre_spec {ls : List (Option Value)} {i k : Nat} {w : Value} (h : zpre ls i = true) (hk : ls[k]? = some (some w)) (e : k + 1 = i) : ¬ w.category = 2 := by
  subst e
  have h' : (match ls[k]? with
    | some (some w) => w.category == 1
    | _ => true) = true := h
  rw [hk] at h'
  have : w.category = 1 := by simpa using h'
  omega
theorem zas_set1 {g : zG} {ls : List (Option Value)} {i : Nat} {v : Value} (hp : zpre ls i = true) : ∀ q ∈ zas g 0 (ls.set i (some v)), q ∈ (i, zv g v) :: (zas g 0 ls).filter (fun q => !(q.1 == i) && !(q.1 + 1 == i && q.2.category == 2)) := by
  intro q hq
  obtain ⟨k, w, hk, rfl⟩ := (zas_mem _ _ _).mp hq
  rw [Nat.zero_add]
  by_cases e : k = i
  · subst e
    rw [List.getElem?_set] at hk
    simp at hk
    rw [← hk.2]
    exact List.mem_cons_self
  · rw [List.getElem?_set_ne (Ne.symm e)] at hk
    refine List.mem_cons_of_mem _ (List.mem_filter.mpr ⟨(zas_mem _ _ _).mpr ⟨k, w, hk, by rw [Nat.zero_add]⟩, ?_⟩)
    have h2 : ¬ (k + 1 = i ∧ w.category = 2) := fun z => zpre_spec hp hk z.1 z.2
    simp only [zv_cat, Bool.and_eq_true, Bool.not_eq_true', beq_eq_false_iff_ne, ne_eq, Bool.and_eq_false_iff]
    refine ⟨e, ?_⟩
    by_cases z : k + 1 = i
    · exact Or.inr (by simpa using fun q => h2 ⟨z, q⟩)
    · exact Or.inl (by simpa using z)
theorem zas_set2 {g : zG} {ls : List (Option Value)} {i : Nat} {v : Value} (hp : zpre ls i = true) : ∀ q ∈ zas g 0 ((ls.set (i + 1) none).set i (some v)), q ∈ (i, zv g v) :: (zas g 0 ls).filter (fun q => !(q.1 == i) && (!(q.1 == i + 1) && !(q.1 + 1 == i && q.2.category == 2))) := by
  intro q hq
  obtain ⟨k, w, hk, rfl⟩ := (zas_mem _ _ _).mp hq
  rw [Nat.zero_add]
  by_cases e : k = i
  · subst e
    rw [List.getElem?_set] at hk
    simp at hk
    rw [← hk.2]
    exact List.mem_cons_self
  · rw [List.getElem?_set_ne (Ne.symm e)] at hk
    by_cases e1 : k = i + 1
    · subst e1
      rw [List.getElem?_set] at hk
      simp at hk
    · rw [List.getElem?_set_ne (Ne.symm e1)] at hk
      refine List.mem_cons_of_mem _ (List.mem_filter.mpr ⟨(zas_mem _ _ _).mpr ⟨k, w, hk, by rw [Nat.zero_add]⟩, ?_⟩)
      have h2 : ¬ (k + 1 = i ∧ w.category = 2) := fun z => zpre_spec hp hk z.1 z.2
      simp only [zv_cat, Bool.and_eq_true, Bool.not_eq_true', beq_eq_false_iff_ne, ne_eq, Bool.and_eq_false_iff]
      refine ⟨e, e1, ?_⟩
      by_cases z : k + 1 = i
      · exact Or.inr (by simpa using fun q => h2 ⟨z, q⟩)
      · exact Or.inl (by simpa using z)
section Z5
variable {g : zG} {d : Nat} {M : zM} {T0 T T' : zT} {pc : Nat} {ls : List (Option Value)} {st : List Value} {S S' : zS} {v : Option Value}
theorem z_iload_n {q : Fin 4} {x : Int32} (hd : decode M.2.2.1 pc = .ok (.iload_n q, 1)) (hx : ls[(q : Nat)]? = some (some (.int x))) (k : zg g d M T0 (pc + 1) ls (.int x :: st) T S v T' S') : zg g d M T0 pc ls st T S v T' S' := fun p l e s m args below meth c H locs la C hA hS hz h1 hl => lv_iload_n C.1 C.2.1 hd rfl (zas_at hl hx) (k p l e s m args below meth c H locs la C hA hS hz h1 hl)
theorem z_iload {i : Nat} {x : Int32} (hd : decode M.2.2.1 pc = .ok (.iload i, 2)) (hx : ls[i]? = some (some (.int x))) (k : zg g d M T0 (pc + 2) ls (.int x :: st) T S v T' S') : zg g d M T0 pc ls st T S v T' S' := fun p l e s m args below meth c H locs la C hA hS hz h1 hl => lv_iload C.1 C.2.1 hd (zas_at hl hx) (k p l e s m args below meth c H locs la C hA hS hz h1 hl)
theorem z_lload_n {q : Fin 4} {x : Int64} (hd : decode M.2.2.1 pc = .ok (.lload_n q, 1)) (hx : ls[(q : Nat)]? = some (some (.long x))) (k : zg g d M T0 (pc + 1) ls (.long x :: st) T S v T' S') : zg g d M T0 pc ls st T S v T' S' := fun p l e s m args below meth c H locs la C hA hS hz h1 hl => lv_lload_n C.1 C.2.1 hd rfl (zas_at hl hx) (k p l e s m args below meth c H locs la C hA hS hz h1 hl)
theorem z_lload {i : Nat} {x : Int64} (hd : decode M.2.2.1 pc = .ok (.lload i, 2)) (hx : ls[i]? = some (some (.long x))) (k : zg g d M T0 (pc + 2) ls (.long x :: st) T S v T' S') : zg g d M T0 pc ls st T S v T' S' := fun p l e s m args below meth c H locs la C hA hS hz h1 hl => lv_lload C.1 C.2.1 hd (zas_at hl hx) (k p l e s m args below meth c H locs la C hA hS hz h1 hl)
theorem z_aload_n {q : Fin 4} {x : Nat} (hd : decode M.2.2.1 pc = .ok (.aload_n q, 1)) (hx : ls[(q : Nat)]? = some (some (.ref x))) (k : zg g d M T0 (pc + 1) ls (.ref x :: st) T S v T' S') : zg g d M T0 pc ls st T S v T' S' := by
  intro p l e s m args below meth c H locs la C hA hS hz h1 hl
  have hy := zas_at hl hx
  have kk := k p l e s m args below meth c H locs la C hA hS hz h1 hl
  rw [List.map_cons] at kk
  rcases zv_ref g x with e | ⟨a, e⟩
  · rw [e] at hy kk; exact lv_aload_nN C.1 C.2.1 hd rfl hy kk
  · rw [e] at hy kk; exact lv_aload_n C.1 C.2.1 hd rfl hy kk
theorem z_aload {i : Nat} {x : Nat} (hd : decode M.2.2.1 pc = .ok (.aload i, 2)) (hx : ls[i]? = some (some (.ref x))) (k : zg g d M T0 (pc + 2) ls (.ref x :: st) T S v T' S') : zg g d M T0 pc ls st T S v T' S' := by
  intro p l e s m args below meth c H locs la C hA hS hz h1 hl
  have hy := zas_at hl hx
  have kk := k p l e s m args below meth c H locs la C hA hS hz h1 hl
  rw [List.map_cons] at kk
  rcases zv_ref g x with e | ⟨a, e⟩
  · rw [e] at hy kk; exact lv_aloadN C.1 C.2.1 hd hy kk
  · rw [e] at hy kk; exact lv_aload C.1 C.2.1 hd hy kk
theorem z_istore_n {q : Fin 4} {x : Int32} {ls' : List (Option Value)} (hd : decode M.2.2.1 pc = .ok (.istore_n q, 1)) (hp : zpre ls (q : Nat) = true) (hn : (q : Nat) < M.2.2.2.1) (hl' : ls.set (q : Nat) (some (.int x)) = ls') (k : zg g d M T0 (pc + 1) ls' st T S v T' S') : zg g d M T0 pc ls (.int x :: st) T S v T' S' := by
  subst hl'; intro p l e s m args below meth c H locs la C hA hS hz h1 hl
  exact lv_istore_n C.1 C.2.1 hd rfl hl hn rfl (fun la hl => k p l e s m args below meth c H locs la C hA hS hz h1 (lv_has_sub hl (zas_set1 (v := .int x) hp)))
theorem z_lstore_n {q : Fin 4} {x : Int64} {ls' : List (Option Value)} (hd : decode M.2.2.1 pc = .ok (.lstore_n q, 1)) (hp : zpre ls (q : Nat) = true) (hn : (q : Nat) + 1 < M.2.2.2.1) (hl' : (ls.set ((q : Nat) + 1) none).set (q : Nat) (some (.long x)) = ls') (k : zg g d M T0 (pc + 1) ls' st T S v T' S') : zg g d M T0 pc ls (.long x :: st) T S v T' S' := by
  subst hl'; intro p l e s m args below meth c H locs la C hA hS hz h1 hl
  exact lv_lstore_n C.1 C.2.1 hd rfl hl hn rfl (fun la hl => k p l e s m args below meth c H locs la C hA hS hz h1 (lv_has_sub hl (zas_set2 (v := .long x) hp)))
theorem z_astore_n {q : Fin 4} {x : Nat} {ls' : List (Option Value)} (hd : decode M.2.2.1 pc = .ok (.astore_n q, 1)) (hp : zpre ls (q : Nat) = true) (hn : (q : Nat) < M.2.2.2.1) (hl' : ls.set (q : Nat) (some (.ref x)) = ls') (k : zg g d M T0 (pc + 1) ls' st T S v T' S') : zg g d M T0 pc ls (.ref x :: st) T S v T' S' := by
  subst hl'; intro p l e s m args below meth c H locs la C hA hS hz h1 hl
  have hs := zas_set1 (g := g) (v := .ref x) hp
  show W p l e _ s m args below meth c H locs _ _ _ (F0 m pc la (zv g (.ref x) :: st.map (zv g)))
  rcases zv_ref g x with e1 | ⟨a, e1⟩
  · rw [e1] at hs ⊢; exact lv_astore_nN C.1 C.2.1 hd rfl hl hn rfl (fun la hl => k p l e s m args below meth c H locs la C hA hS hz h1 (lv_has_sub hl hs))
  · rw [e1] at hs ⊢; exact lv_astore_n C.1 C.2.1 hd rfl hl hn rfl (fun la hl => k p l e s m args below meth c H locs la C hA hS hz h1 (lv_has_sub hl hs))
theorem z_istore {i : Nat} {x : Int32} {ls' : List (Option Value)} (hd : decode M.2.2.1 pc = .ok (.istore i, 2)) (hp : zpre ls i = true) (hn : i < M.2.2.2.1) (hl' : ls.set i (some (.int x)) = ls') (k : zg g d M T0 (pc + 2) ls' st T S v T' S') : zg g d M T0 pc ls (.int x :: st) T S v T' S' := by
  subst hl'; intro p l e s m args below meth c H locs la C hA hS hz h1 hl
  exact lv_istore C.1 C.2.1 hd hl hn rfl (fun la hl => k p l e s m args below meth c H locs la C hA hS hz h1 (lv_has_sub hl (zas_set1 (v := .int x) hp)))
theorem z_lstore {i : Nat} {x : Int64} {ls' : List (Option Value)} (hd : decode M.2.2.1 pc = .ok (.lstore i, 2)) (hp : zpre ls i = true) (hn : i + 1 < M.2.2.2.1) (hl' : (ls.set (i + 1) none).set i (some (.long x)) = ls') (k : zg g d M T0 (pc + 2) ls' st T S v T' S') : zg g d M T0 pc ls (.long x :: st) T S v T' S' := by
  subst hl'; intro p l e s m args below meth c H locs la C hA hS hz h1 hl
  exact lv_lstore C.1 C.2.1 hd hl hn rfl (fun la hl => k p l e s m args below meth c H locs la C hA hS hz h1 (lv_has_sub hl (zas_set2 (v := .long x) hp)))
theorem z_astore {i : Nat} {x : Nat} {ls' : List (Option Value)} (hd : decode M.2.2.1 pc = .ok (.astore i, 2)) (hp : zpre ls i = true) (hn : i < M.2.2.2.1) (hl' : ls.set i (some (.ref x)) = ls') (k : zg g d M T0 (pc + 2) ls' st T S v T' S') : zg g d M T0 pc ls (.ref x :: st) T S v T' S' := by
  subst hl'; intro p l e s m args below meth c H locs la C hA hS hz h1 hl
  have hs := zas_set1 (g := g) (v := .ref x) hp
  show W p l e _ s m args below meth c H locs _ _ _ (F0 m pc la (zv g (.ref x) :: st.map (zv g)))
  rcases zv_ref g x with e1 | ⟨a, e1⟩
  · rw [e1] at hs ⊢; exact lv_astoreN C.1 C.2.1 hd hl hn rfl (fun la hl => k p l e s m args below meth c H locs la C hA hS hz h1 (lv_has_sub hl hs))
  · rw [e1] at hs ⊢; exact lv_astore C.1 C.2.1 hd hl hn rfl (fun la hl => k p l e s m args below meth c H locs la C hA hS hz h1 (lv_has_sub hl hs))
theorem z_iinc {i : Nat} {n : Int} {x r : Int32} {ls' : List (Option Value)} (hd : decode M.2.2.1 pc = .ok (.iinc i n, 3)) (hx : ls[i]? = some (some (.int x))) (hr : x + Int32.ofInt n = r) (hp : zpre ls i = true) (hn : i < M.2.2.2.1) (hl' : ls.set i (some (.int r)) = ls') (k : zg g d M T0 (pc + 3) ls' st T S v T' S') : zg g d M T0 pc ls st T S v T' S' := by
  subst hl'; intro p l e s m args below meth c H locs la C hA hS hz h1 hl
  obtain ⟨j, hj⟩ := List.getElem?_of_mem ((zas_mem (g := g) ls 0 (0 + i, zv g (.int x))).mpr ⟨i, .int x, hx, rfl⟩)
  rw [Nat.zero_add] at hj
  exact lv_iinc C.1 C.2.1 hd hl hj hr hn rfl (fun la hl => k p l e s m args below meth c H locs la C hA hS hz h1 (lv_has_sub hl (zas_set1 (v := .int r) hp)))
/-- fewer locals are known -/
def zmask : List Bool → List (Option Value) → List (Option Value)
  | true :: m, x :: l => x :: zmask m l
  | false :: m, _ :: l => none :: zmask m l
  | _, [] => []
  | [], _ => []
theorem zmask_spec : ∀ (m : List Bool) (l : List (Option Value)) (k : Nat) (w : Value), (zmask m l)[k]? = some (some w) → l[k]? = some (some w) := by
  intro m
  induction m with
  | nil => intro l k w h; cases l <;> simp [zmask] at h
  | cons b m ih =>
    intro l k w h
    cases l with
    | nil => cases b <;> simp [zmask] at h
    | cons a l =>
      cases b with
      | true =>
        cases k with
        | zero => simpa [zmask] using h
        | succ k => simp [zmask] at h ⊢; exact ih l k w h
      | false =>
        cases k with
        | zero => simp [zmask] at h
        | succ k => simp [zmask] at h ⊢; exact ih l k w h
theorem z_mask (mk : List Bool) {ls' : List (Option Value)} (h : zmask mk ls = ls') (k : zg g d M T0 pc ls' st T S v T' S') : zg g d M T0 pc ls st T S v T' S' := by
  subst h; intro p l e s m args below meth c H locs la C hA hS hz h1 hl
  refine k p l e s m args below meth c H locs la C hA hS hz h1 (lv_has_sub hl fun q hq => ?_)
  obtain ⟨i, w, hi, rfl⟩ := (zas_mem _ _ _).mp hq
  exact (zas_mem _ _ _).mpr ⟨i, w, zmask_spec mk ls i w hi, rfl⟩
end Z5
