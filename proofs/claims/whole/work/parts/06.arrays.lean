theorem zAt_ai {g : zG} {T : zT} {S : zS} {H : Heap} {k kd n : Nat} (hA : zAt g T S H) (hL : zL T k kd n) (h1 : kd = 20 ∨ kd = 22 ∨ kd = 23) : va_at g.1 vwCl (g.2.2.1 + k, .inl (g.2.1 (kd - 20), n, .inl (S.1 k))) H := by
  have h := hA.2.2 k hL.1
  have e : zce g T S k = .inl (g.2.1 (kd - 20), n, .inl (S.1 k)) := by
    unfold zce
    rw [hL.2.1, hL.2.2, if_neg (by omega), if_neg (by omega), if_pos (by omega)]
  rw [e] at h
  exact h
theorem zAt_al {g : zG} {T : zT} {S : zS} {H : Heap} {k n : Nat} (hA : zAt g T S H) (hL : zL T k 21 n) : va_at g.1 vwCl (g.2.2.1 + k, .inl (g.2.1 1, n, .inr (.inl (S.2 k)))) H := by
  have h := hA.2.2 k hL.1
  have e : zce g T S k = .inl (g.2.1 1, n, .inr (.inl (S.2 k))) := by
    unfold zce
    rw [hL.2.1, hL.2.2, if_neg (by omega), if_pos rfl]
  rw [e] at h
  exact h
theorem zAt_aq {g : zG} {T : zT} {S : zS} {H : Heap} {k kd n : Nat} (hA : zAt g T S H) (hL : zL T k kd n) (h1 : 24 ≤ kd) : va_at g.1 vwCl (g.2.2.1 + k, .inl (g.2.1 (kd - 20), n, .inr (.inr (.inr (.inr (fun j => zro g (T.2.2.2.2 k j))))))) H := by
  have h := hA.2.2 k hL.1
  have e : zce g T S k = .inl (g.2.1 (kd - 20), n, .inr (.inr (.inr (.inr (fun j => zro g (T.2.2.2.2 k j)))))) := by
    unfold zce
    rw [hL.2.1, hL.2.2, if_neg (by omega), if_neg (by omega), if_neg (by omega)]
  rw [e] at h
  exact h
theorem zL_lt {g : zG} {T : zT} {S : zS} {H : Heap} {k kd n : Nat} (hA : zAt g T S H) (hL : zL T k kd n) : zv g (.ref k) = .ref (g.2.2.1 + k) := zv_lt (by have := hA.2.1; have := hL.1; omega)
theorem zce_ai {g : zG} {T : zT} {S : zS} {k kd n : Nat} (hL : zL T k kd n) (h1 : kd = 20 ∨ kd = 22 ∨ kd = 23) : zce g T S k = .inl (g.2.1 (kd - 20), n, .inl (S.1 k)) := by
  unfold zce
  rw [hL.2.1, hL.2.2, if_neg (by omega), if_neg (by omega), if_pos (by omega)]
theorem zce_al {g : zG} {T : zT} {S : zS} {k n : Nat} (hL : zL T k 21 n) : zce g T S k = .inl (g.2.1 1, n, .inr (.inl (S.2 k))) := by
  unfold zce
  rw [hL.2.1, hL.2.2, if_neg (by omega), if_pos rfl]
theorem zce_aq {g : zG} {T : zT} {S : zS} {k kd n : Nat} (hL : zL T k kd n) (h1 : 24 ≤ kd) : zce g T S k = .inl (g.2.1 (kd - 20), n, .inr (.inr (.inr (.inr (fun j => zro g (T.2.2.2.2 k j)))))) := by
  unfold zce
  rw [hL.2.1, hL.2.2, if_neg (by omega), if_neg (by omega), if_neg (by omega)]
theorem zJ_same {S : zS} {k i : Nat} {x : Int64} : (zJ S k i x).2 k = vp_updL (S.2 k) i x := by
  funext b
  show (if k = k ∧ b = i then x else S.2 k b) = if b = i then x else S.2 k b
  by_cases h : b = i
  · rw [if_pos h, if_pos ⟨rfl, h⟩]
  · rw [if_neg h, if_neg (fun z => h z.2)]
theorem zQ_same {T : zT} {k i r : Nat} : (zQ T k i r).2.2.2.2 k = fun b => if b = i then r else T.2.2.2.2 k b := by
  funext b
  show (if k = k ∧ b = i then r else T.2.2.2.2 k b) = if b = i then r else T.2.2.2.2 k b
  by_cases h : b = i
  · rw [if_pos h, if_pos ⟨rfl, h⟩]
  · rw [if_neg h, if_neg (fun z => h z.2)]
/-- a row of ints is copied into another, or into itself -/
def zCp (S : zS) (a b sp dp n : Nat) : zS := (fun c j => if c = b ∧ dp ≤ j ∧ j < dp + n then S.1 a (sp + (j - dp)) else S.1 c j, S.2)
theorem zCp_other {S : zS} {a b sp dp n c : Nat} (h : c ≠ b) : (zCp S a b sp dp n).1 c = S.1 c := by
  funext j
  exact if_neg (fun z => h z.1)
theorem zCp_same {S : zS} {a b sp dp n : Nat} : (zCp S a b sp dp n).1 b = va_cpy (S.1 a) (S.1 b) sp dp n := by
  funext j
  show (if b = b ∧ dp ≤ j ∧ j < dp + n then S.1 a (sp + (j - dp)) else S.1 b j) = if dp ≤ j ∧ j < dp + n then S.1 a (sp + (j - dp)) else S.1 b j
  by_cases h : dp ≤ j ∧ j < dp + n
  · rw [if_pos h, if_pos ⟨rfl, h⟩]
  · rw [if_neg h, if_neg (fun z => h z.2)]
section Z7
variable {g : zG} {d : Nat} {M : zM} {T0 T T' : zT} {pc : Nat} {ls : List (Option Value)} {st : List Value} {S S' : zS} {v : Option Value} {k kd n : Nat}
theorem z_iald {i : Int32} (hL : zL T k 20 n) (hi : vp_in i n) (hd : decode M.2.2.1 pc = .ok (.iaload, 1)) (kk : zg g d M T0 (pc + 1) ls (.int (S.1 k i.toNatClampNeg) :: st) T S v T' S') : zg g d M T0 pc ls (.int i :: .ref k :: st) T S v T' S' := by
  intro p l e s m args below meth c H locs la C hA hS hz h1 hl
  show W p l e _ s m args below meth c H locs _ _ _ (F0 m pc la (.int i :: zv g (.ref k) :: st.map (zv g)))
  rw [zL_lt hA hL]
  exact va_iald C.1 C.2.1 C.2.2.2.2.2.2.2.2.1 (zP1 (zAt_ai hA hL (Or.inl rfl))) 0 0 rfl rfl hi hd (kk p l e s m args below meth c H locs la C hA hS hz h1 hl)
theorem z_zald {i : Int32} (hL : zL T k 22 n) (hi : vp_in i n) (hd : decode M.2.2.1 pc = .ok (.baload, 1)) (kk : zg g d M T0 (pc + 1) ls (.int (S.1 k i.toNatClampNeg) :: st) T S v T' S') : zg g d M T0 pc ls (.int i :: .ref k :: st) T S v T' S' := by
  intro p l e s m args below meth c H locs la C hA hS hz h1 hl
  show W p l e _ s m args below meth c H locs _ _ _ (F0 m pc la (.int i :: zv g (.ref k) :: st.map (zv g)))
  rw [zL_lt hA hL]
  exact va_zald C.1 C.2.1 C.2.2.2.2.2.2.2.2.1 (zP1 (zAt_ai hA hL (Or.inr (Or.inl rfl)))) 0 2 rfl rfl hi hd (kk p l e s m args below meth c H locs la C hA hS hz h1 hl)
theorem z_bald {i : Int32} (hL : zL T k 23 n) (hi : vp_in i n) (hd : decode M.2.2.1 pc = .ok (.baload, 1)) (kk : zg g d M T0 (pc + 1) ls (.int (S.1 k i.toNatClampNeg) :: st) T S v T' S') : zg g d M T0 pc ls (.int i :: .ref k :: st) T S v T' S' := by
  intro p l e s m args below meth c H locs la C hA hS hz h1 hl
  show W p l e _ s m args below meth c H locs _ _ _ (F0 m pc la (.int i :: zv g (.ref k) :: st.map (zv g)))
  rw [zL_lt hA hL]
  exact va_bald C.1 C.2.1 C.2.2.2.2.2.2.2.2.1 (zP1 (zAt_ai hA hL (Or.inr (Or.inr rfl)))) 0 3 rfl rfl hi hd (kk p l e s m args below meth c H locs la C hA hS hz h1 hl)
theorem z_lald {i : Int32} (hL : zL T k 21 n) (hi : vp_in i n) (hd : decode M.2.2.1 pc = .ok (.laload, 1)) (kk : zg g d M T0 (pc + 1) ls (.long (S.2 k i.toNatClampNeg) :: st) T S v T' S') : zg g d M T0 pc ls (.int i :: .ref k :: st) T S v T' S' := by
  intro p l e s m args below meth c H locs la C hA hS hz h1 hl
  show W p l e _ s m args below meth c H locs _ _ _ (F0 m pc la (.int i :: zv g (.ref k) :: st.map (zv g)))
  rw [zL_lt hA hL]
  exact va_lald C.1 C.2.1 C.2.2.2.2.2.2.2.2.1 (zP1 (zAt_al hA hL)) 0 1 rfl rfl hi hd (kk p l e s m args below meth c H locs la C hA hS hz h1 hl)
theorem z_aald {i : Int32} {C0 : String} (hL : zL T k kd n) (hk : 24 ≤ kd) (ht : ∀ g, (zty g)[kd - 20]? = some (g.2.1 (kd - 20), .object C0)) (hi : vp_in i n) (hd : decode M.2.2.1 pc = .ok (.aaload, 1)) (kk : zg g d M T0 (pc + 1) ls (.ref (T.2.2.2.2 k i.toNatClampNeg) :: st) T S v T' S') : zg g d M T0 pc ls (.int i :: .ref k :: st) T S v T' S' := by
  intro p l e s m args below meth c H locs la C hA hS hz h1 hl
  show W p l e _ s m args below meth c H locs _ _ _ (F0 m pc la (.int i :: zv g (.ref k) :: st.map (zv g)))
  rw [zL_lt hA hL]
  exact va_aldq C.1 C.2.1 C.2.2.2.2.2.2.2.2.1 (zP1 (zAt_aq hA hL hk)) 0 (kd - 20) rfl (ht g) hi hd (kk p l e s m args below meth c H locs la C hA hS hz h1 hl)
theorem z_alenI (hL : zL T k kd n) (h20 : kd = 20 ∨ kd = 22 ∨ kd = 23) (hd : decode M.2.2.1 pc = .ok (.arraylength, 1)) (kk : zg g d M T0 (pc + 1) ls (.int (Int32.ofNat n) :: st) T S v T' S') : zg g d M T0 pc ls (.ref k :: st) T S v T' S' := by
  intro p l e s m args below meth c H locs la C hA hS hz h1 hl
  show W p l e _ s m args below meth c H locs _ _ _ (F0 m pc la (zv g (.ref k) :: st.map (zv g)))
  rw [zL_lt hA hL]
  have hx := zAt_ai hA hL h20
  rcases h20 with rfl | rfl | rfl
  · exact va_alen C.1 C.2.1 C.2.2.2.2.2.2.2.2.1 (zP1 hx) 0 0 rfl (ty := .int) rfl rfl hd (kk p l e s m args below meth c H locs la C hA hS hz h1 hl)
  · exact va_alen C.1 C.2.1 C.2.2.2.2.2.2.2.2.1 (zP1 hx) 0 2 rfl (ty := .boolean) rfl rfl hd (kk p l e s m args below meth c H locs la C hA hS hz h1 hl)
  · exact va_alen C.1 C.2.1 C.2.2.2.2.2.2.2.2.1 (zP1 hx) 0 3 rfl (ty := .byte) rfl rfl hd (kk p l e s m args below meth c H locs la C hA hS hz h1 hl)
theorem z_alenL (hL : zL T k 21 n) (hd : decode M.2.2.1 pc = .ok (.arraylength, 1)) (kk : zg g d M T0 (pc + 1) ls (.int (Int32.ofNat n) :: st) T S v T' S') : zg g d M T0 pc ls (.ref k :: st) T S v T' S' := by
  intro p l e s m args below meth c H locs la C hA hS hz h1 hl
  show W p l e _ s m args below meth c H locs _ _ _ (F0 m pc la (zv g (.ref k) :: st.map (zv g)))
  rw [zL_lt hA hL]
  exact va_alen C.1 C.2.1 C.2.2.2.2.2.2.2.2.1 (zP1 (zAt_al hA hL)) 0 1 rfl (ty := .long) rfl rfl hd (kk p l e s m args below meth c H locs la C hA hS hz h1 hl)
theorem z_alenQ {C0 : String} (hL : zL T k kd n) (hk : 24 ≤ kd) (ht : ∀ g, (zty g)[kd - 20]? = some (g.2.1 (kd - 20), .object C0)) (hd : decode M.2.2.1 pc = .ok (.arraylength, 1)) (kk : zg g d M T0 (pc + 1) ls (.int (Int32.ofNat n) :: st) T S v T' S') : zg g d M T0 pc ls (.ref k :: st) T S v T' S' := by
  intro p l e s m args below meth c H locs la C hA hS hz h1 hl
  show W p l e _ s m args below meth c H locs _ _ _ (F0 m pc la (zv g (.ref k) :: st.map (zv g)))
  rw [zL_lt hA hL]
  exact va_alen C.1 C.2.1 C.2.2.2.2.2.2.2.2.1 (zP1 (zAt_aq hA hL hk)) 0 (kd - 20) rfl (ht g) rfl hd (kk p l e s m args below meth c H locs la C hA hS hz h1 hl)
theorem z_iast {i x : Int32} (hL : zL T k 20 n) (hi : vp_in i n) (hd : decode M.2.2.1 pc = .ok (.iastore, 1)) (kk : zg g d M T0 (pc + 1) ls st T (zI S k i.toNatClampNeg x) v T' S') : zg g d M T0 pc ls (.int x :: .int i :: .ref k :: st) T S v T' S' := by
  intro p l e s m args below meth c H locs la C hA hS hz h1 hl
  show W p l e _ s m args below meth c H locs _ _ _ (F0 m pc la (.int x :: .int i :: zv g (.ref k) :: st.map (zv g)))
  rw [zL_lt hA hL]
  refine W.iast C.1 C.2.1 (zAt_ai hA hL (Or.inl rfl)) ((C.2.2.2.2.2.2.2.2.1.2 0 _ rfl).1 n (fun j => .int (S.1 k j))) (fun q => by cases q) (by show ¬ (i < 0 ∨ (arrV _ _ _).slots.size ≤ _); rw [arrV_size]; exact hi) rfl rfl hd fun H1 e1 z oq => ?_
  refine kk p l e s m args below meth c H1 _ la C (zAt_upd hA rfl z oq (fun a ha => zce_congr (zI_other ha) rfl rfl rfl rfl) ?_) (hS.put z oq (by show g.2.2.1 ≤ g.2.2.1 + k; omega)) hz h1 hl
  rw [zce_ai hL (Or.inl rfl), zI_same]
  show H1[g.2.2.1 + k]? = some (vp_cell _ _)
  rw [e1]
  rw [vp_cell_i, vp_cell_i, arrV_store]
  congr 2
  funext q
  by_cases hq : q = i.toNatClampNeg
  · subst hq
    simp [updV, upd]
  · simp [updV, upd, hq]
theorem z_bast {i x : Int32} (hL : zL T k 23 n) (hi : vp_in i n) (hd : decode M.2.2.1 pc = .ok (.bastore, 1)) (kk : zg g d M T0 (pc + 1) ls st T (zI S k i.toNatClampNeg (vp_nar .byte x)) v T' S') : zg g d M T0 pc ls (.int x :: .int i :: .ref k :: st) T S v T' S' := by
  intro p l e s m args below meth c H locs la C hA hS hz h1 hl
  show W p l e _ s m args below meth c H locs _ _ _ (F0 m pc la (.int x :: .int i :: zv g (.ref k) :: st.map (zv g)))
  rw [zL_lt hA hL]
  refine W.bast C.1 C.2.1 (zAt_ai hA hL (Or.inr (Or.inr rfl))) ((C.2.2.2.2.2.2.2.2.1.2 3 _ rfl).1 n (fun j => .int (S.1 k j))) (fun q => by cases q) (by show ¬ (i < 0 ∨ (arrV _ _ _).slots.size ≤ _); rw [arrV_size]; exact hi) rfl rfl hd fun H1 e1 z oq => ?_
  refine kk p l e s m args below meth c H1 _ la C (zAt_upd hA rfl z oq (fun a ha => zce_congr (zI_other ha) rfl rfl rfl rfl) ?_) (hS.put z oq (by show g.2.2.1 ≤ g.2.2.1 + k; omega)) hz h1 hl
  rw [zce_ai hL (Or.inr (Or.inr rfl)), zI_same]
  show H1[g.2.2.1 + k]? = some (vp_cell _ _)
  rw [e1]
  rw [vp_cell_i, vp_cell_i, arrV_store]
  congr 2
  funext q
  by_cases hq : q = i.toNatClampNeg
  · subst hq
    simp [updV, upd, vp_nar]
    try rfl
  · simp [updV, upd, hq]
theorem z_zast {i x : Int32} (hL : zL T k 22 n) (hi : vp_in i n) (hd : decode M.2.2.1 pc = .ok (.bastore, 1)) (kk : zg g d M T0 (pc + 1) ls st T (zI S k i.toNatClampNeg (vp_nar .boolean x)) v T' S') : zg g d M T0 pc ls (.int x :: .int i :: .ref k :: st) T S v T' S' := by
  intro p l e s m args below meth c H locs la C hA hS hz h1 hl
  show W p l e _ s m args below meth c H locs _ _ _ (F0 m pc la (.int x :: .int i :: zv g (.ref k) :: st.map (zv g)))
  rw [zL_lt hA hL]
  refine W.zast C.1 C.2.1 (zAt_ai hA hL (Or.inr (Or.inl rfl))) ((C.2.2.2.2.2.2.2.2.1.2 2 _ rfl).1 n (fun j => .int (S.1 k j))) (fun q => by cases q) (by show ¬ (i < 0 ∨ (arrV _ _ _).slots.size ≤ _); rw [arrV_size]; exact hi) rfl rfl hd fun H1 e1 z oq => ?_
  refine kk p l e s m args below meth c H1 _ la C (zAt_upd hA rfl z oq (fun a ha => zce_congr (zI_other ha) rfl rfl rfl rfl) ?_) (hS.put z oq (by show g.2.2.1 ≤ g.2.2.1 + k; omega)) hz h1 hl
  rw [zce_ai hL (Or.inr (Or.inl rfl)), zI_same]
  show H1[g.2.2.1 + k]? = some (vp_cell _ _)
  rw [e1]
  rw [vp_cell_i, vp_cell_i, arrV_store]
  congr 2
  funext q
  by_cases hq : q = i.toNatClampNeg
  · subst hq
    simp [updV, upd, vp_nar]
    try rfl
  · simp [updV, upd, hq]
theorem z_last {i : Int32} {x : Int64} (hL : zL T k 21 n) (hi : vp_in i n) (hd : decode M.2.2.1 pc = .ok (.lastore, 1)) (kk : zg g d M T0 (pc + 1) ls st T (zJ S k i.toNatClampNeg x) v T' S') : zg g d M T0 pc ls (.long x :: .int i :: .ref k :: st) T S v T' S' := by
  intro p l e s m args below meth c H locs la C hA hS hz h1 hl
  show W p l e _ s m args below meth c H locs _ _ _ (F0 m pc la (.long x :: .int i :: zv g (.ref k) :: st.map (zv g)))
  rw [zL_lt hA hL]
  refine W.last C.1 C.2.1 (zAt_al hA hL) ((C.2.2.2.2.2.2.2.2.1.2 1 _ rfl).1 n (fun j => .long (S.2 k j))) (fun q => by cases q) (by show ¬ (i < 0 ∨ (arrV _ _ _).slots.size ≤ _); rw [arrV_size]; exact hi) rfl rfl hd fun H1 e1 z oq => ?_
  refine kk p l e s m args below meth c H1 _ la C (zAt_upd hA rfl z oq (fun a ha => zce_congr rfl (zJ_other ha) rfl rfl rfl) ?_) (hS.put z oq (by show g.2.2.1 ≤ g.2.2.1 + k; omega)) hz h1 hl
  rw [zce_al hL, zJ_same]
  show H1[g.2.2.1 + k]? = some (vp_cell _ _)
  rw [e1]
  rw [vp_cell_l, vp_cell_l, arrV_store]
  congr 2
  funext q
  by_cases hq : q = i.toNatClampNeg
  · subst hq
    simp [updV, vp_updL]
  · simp [updV, vp_updL, hq]
/-- the script -/
theorem z_slen (hd : decode M.2.2.1 pc = .ok (.arraylength, 1)) (kk : zg g d M T0 (pc + 1) ls (.int (Int32.ofNat g.2.2.2.2.2.1) :: st) T S v T' S') : zg g d M T0 pc ls (.ref 10001 :: st) T S v T' S' := by
  intro p l e s m args below meth c H locs la C hA hS hz h1 hl
  show W p l e _ s m args below meth c H locs _ _ _ (F0 m pc la (zv g (.ref (10001 + 0)) :: st.map (zv g)))
  rw [zv_gt]
  have hX := C.2.2.2.2.2.2.2.2.2.1
  exact va_slen C.1 C.2.1 hX.1 (by have := hX.2.1; have := C.2.2.2.2.2.2.2.2.2.2; omega) (by show ¬ g.2.2.1 ≤ _; have := hX.2.1; omega) hS hd (kk p l e s m args below meth c H locs la C hA hS hz h1 hl)
theorem z_sld {i : Int32} (hi : vp_in i g.2.2.2.2.2.1) (hd : decode M.2.2.1 pc = .ok (.iaload, 1)) (kk : zg g d M T0 (pc + 1) ls (.int (g.2.2.2.2.2.2 i.toNatClampNeg) :: st) T S v T' S') : zg g d M T0 pc ls (.int i :: .ref 10001 :: st) T S v T' S' := by
  intro p l e s m args below meth c H locs la C hA hS hz h1 hl
  show W p l e _ s m args below meth c H locs _ _ _ (F0 m pc la (.int i :: zv g (.ref (10001 + 0)) :: st.map (zv g)))
  rw [zv_gt]
  have hX := C.2.2.2.2.2.2.2.2.2.1
  exact va_sld C.1 C.2.1 hX.1 (by have := hX.2.1; have := C.2.2.2.2.2.2.2.2.2.2; omega) (by show ¬ g.2.2.1 ≤ _; have := hX.2.1; omega) hS hi hd (kk p l e s m args below meth c H locs la C hA hS hz h1 hl)
end Z7
