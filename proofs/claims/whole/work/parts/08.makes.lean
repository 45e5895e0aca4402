/-- a new cell: kind, length, slots -/
def zNT (T : zT) (kd len sl : Nat) : zT := (T.1 + 1, T.2.1 + sl, fun a => if a = T.1 then kd else T.2.2.1 a, fun a => if a = T.1 then len else T.2.2.2.1 a, fun a b => if a = T.1 then 10000 else T.2.2.2.2 a b)
def zNS (T : zT) (S : zS) : zS := (fun a b => if a = T.1 then 0 else S.1 a b, fun a b => if a = T.1 then 0 else S.2 a b)
def zdv : Nat → Value
  | 0 => .int 0
  | 1 => .long 0
  | _ => .null
theorem zN_other {g : zG} {T : zT} {S : zS} {kd len sl k : Nat} (h : k ≠ T.1) : zce g (zNT T kd len sl) (zNS T S) k = zce g T S k := by
  refine zce_congr ?_ ?_ (if_neg h) (if_neg h) ?_
  · funext b; exact if_neg h
  · funext b; exact if_neg h
  · funext b; exact if_neg h
theorem zN_fv {g : zG} {T : zT} {S : zS} {kd len sl : Nat} (j n : Nat) : zfv g (zNT T kd len sl) (zNS T S) T.1 j n = zdv n := by
  match n with
  | 0 =>
    show Value.int (if T.1 = T.1 then 0 else S.1 T.1 j) = .int 0
    rw [if_pos rfl]
  | 1 =>
    show Value.long (if T.1 = T.1 then 0 else S.2 T.1 j) = .long 0
    rw [if_pos rfl]
  | n + 2 =>
    show va_rf (zro g (if T.1 = T.1 then 10000 else T.2.2.2.2 T.1 j)) = .null
    rw [if_pos rfl]
    unfold zro
    rw [if_pos rfl]
    rfl
theorem zAt_new {g : zG} {T T1 : zT} {S S1 : zS} {H H1 : Heap} (hA : zAt g T S H) (hn : T.1 < 10000) (hT : T1.1 = T.1 + 1) (z : H1.size = H.size + 1) (oq : ∀ q : Nat, q < H.size → H1[q]? = H[q]?) (ho : ∀ j, j ≠ T.1 → zce g T1 S1 j = zce g T S j) (hc : va_at g.1 vwCl (g.2.2.1 + T.1, zce g T1 S1 T.1) H1) : zAt g T1 S1 H1 := by
  refine ⟨by rw [z, hA.1, hT]; omega, by omega, fun j hj => ?_⟩
  by_cases e : j = T.1
  · subst e
    exact hc
  · rw [ho j e]
    exact (hA.2.2 j (by omega)).kept (oq _ (by show g.2.2.1 + j < H.size; rw [hA.1]; omega))
theorem va_S.make {A : Nat → Prop} {H0 H H1 : Heap} {locs : List Loc} (h : va_S A H0 H locs) (z : H1.size = H.size + 1) (oq : ∀ q : Nat, q < H.size → H1[q]? = H[q]?) : va_S A H0 H1 locs :=
  ⟨Nat.le_trans h.1 (by omega), fun x h1 h2 => (oq x (Nat.lt_of_lt_of_le h1 h.1)).trans (h.2.1 x h1 h2), h.2.2⟩
section Z9
variable {g : zG} {d : Nat} {M : zM} {T0 T T' : zT} {pc : Nat} {ls : List (Option Value)} {st : List Value} {S S' : zS} {v : Option Value}
theorem z_new {idx ci N : Nat} {C0 : String} {X : u_T} {ty : Nat → FieldType} (hC : zC ci C0 X N ty) (hdf : ∀ j, j < N → defaultValue (ty j) = zdv (zkd (ty j))) (hcl : Cond.classLink M.1 idx C0 ∈ zTb) (hins : Cond.instantiable C0 N ∈ zTb) (hini : Cond.initialized C0 ∈ zTb) (hn : T.1 < 10000) (hT1 : T.1 + 1 ≤ T'.1) (hT2 : T.2.1 + N ≤ T'.2.1) (hd : decode M.2.2.1 pc = .ok (.new idx, 3)) (kk : zg g d M T0 (pc + 3) ls (.ref T.1 :: st) (zNT T ci 0 N) (zNS T S) v T' S') : zg g d M T0 pc ls st T S v T' S' := by
  intro p l e s m args below meth c H locs la C hA hS hz h1 hl
  obtain ⟨c1, c2, c3, c4, c5, c6, c7⟩ := hC
  have hts := C.2.2.2.2.2.1
  have hK := C.2.2.2.2.2.2.2.2.1
  have hKn := hK.1 ci _ c1
  refine W.newcK C.1 C.2.1 C.2.2.2.2.1 (hts _ hcl) (hts _ hins) (hts _ hini) rfl hd (by show _ ≤ T'.1 - T0.1; omega) (by show _ ≤ T'.2.1 - T0.2.1; omega) hKn.2.1 rfl fun H1 kC hkC e1 z1 o1 => ?_
  have hb := u_born ty hts c2 hKn hkC e1 c3
  have hcell : va_at g.1 vwCl (g.2.2.1 + T.1, zce g (zNT T ci 0 N) (zNS T S) T.1) H1 := by
    have ez : zce g (zNT T ci 0 N) (zNS T S) T.1 = .inr (ci, zfs g (zNT T ci 0 N) (zNS T S) T.1 (zft ci)) := by
      unfold zce
      rw [show (zNT T ci 0 N).2.2.1 T.1 = ci from if_pos rfl, if_pos c6]
    rw [ez]
    refine ⟨_, c1, ?_⟩
    rw [← hA.1]
    refine hb.to fun j hj => ?_
    show defaultValue (ty j) = vp_V _ j
    have hget := zfs_at (g := g) (T := zNT T ci 0 N) (S := zNS T S) (k := T.1) (l := zft ci) (j := j) (by rw [c5]; exact hj)
    rw [zN_fv, c7 j hj, ← hdf j hj] at hget
    simp [vp_V, hget]
  have kz := kk p l e s m args below meth c H1 locs la C (zAt_new hA hn rfl z1 o1 (fun j hj => zN_other hj) hcell) (hS.make z1 o1) hz ⟨by show T0.1 ≤ T.1 + 1; omega, by show T0.2.1 ≤ T.2.1 + N; omega⟩ hl
  have ev : zv g (.ref T.1) = .ref H.size := by rw [zv_lt hn, hA.1]
  have ec : T.1 - T0.1 + 1 = (zNT T ci 0 N).1 - T0.1 := by show _ = T.1 + 1 - T0.1; omega
  have es : T.2.1 - T0.2.1 + N = (zNT T ci 0 N).2.1 - T0.2.1 := by show _ = T.2.1 + N - T0.2.1; omega
  rw [ec, es]
  show W p l e _ s m args below meth c H1 locs _ _ _ (F0 m (pc + 3) la (.ref H.size :: st.map (zv g)))
  rw [← ev]
  exact kz
theorem z_newA {at0 : ArrayType} {ty : FieldType} {kd : Nat} {n : Int32} {N : Nat} (hty : newarray.typeOf at0 = ty) (hw : Cond.arrayClass ty ∈ zTb) (hkd : kd = 20 ∧ ty = .int ∨ kd = 21 ∧ ty = .long ∨ kd = 22 ∧ ty = .boolean ∨ kd = 23 ∧ ty = .byte) (hn0 : ¬ n < 0) (hN : n.toNatClampNeg = N) (hN2 : N ≤ 1000000) (hn : T.1 < 10000) (hT1 : T.1 + 1 ≤ T'.1) (hT2 : T.2.1 + N ≤ T'.2.1) (hd : decode M.2.2.1 pc = .ok (.newarray at0, 2)) (kk : zg g d M T0 (pc + 2) ls (.ref T.1 :: st) (zNT T kd N N) (zNS T S) v T' S') : zg g d M T0 pc ls (.int n :: st) T S v T' S' := by
  intro p l e s m args below meth c H locs la C hA hS hz h1 hl
  subst hty
  have hts := C.2.2.2.2.2.1
  have hK := C.2.2.2.2.2.2.2.2.1
  refine va_newaK C.1 C.2.1 (hts _ hw) rfl hd (n := n) (rest := st.map (zv g)) rfl hn0 hN (by have : componentBytes (newarray.typeOf at0) ≤ 8 := (by cases at0 <;> decide); exact Nat.le_trans (Nat.mul_le_mul hN2 this) (by decide)) (by show _ ≤ T'.1 - T0.1; omega) (by show _ ≤ T'.2.1 - T0.2.1; omega) rfl fun H1 cA e1 z1 o1 hAr hNm => ?_
  have hcell : va_at g.1 vwCl (g.2.2.1 + T.1, zce g (zNT T kd N N) (zNS T S) T.1) H1 := by
    have hL : zL (zNT T kd N N) T.1 kd N := ⟨by show T.1 < T.1 + 1; omega, if_pos rfl, if_pos rfl⟩
    rw [hA.1] at e1
    have i0 : (zNS T S).1 T.1 = fun _ => 0 := by funext b; exact if_pos rfl
    have j0 : (zNS T S).2 T.1 = fun _ => 0 := by funext b; exact if_pos rfl
    rcases hkd with ⟨rfl, h2⟩ | ⟨rfl, h2⟩ | ⟨rfl, h2⟩ | ⟨rfl, h2⟩
    · rw [zce_ai hL (Or.inl rfl), i0]
      rw [h2] at e1 hNm
      have : cA = g.2.1 0 := Option.some.inj (hNm.symm.trans (hK.2 0 _ rfl).2)
      subst this
      exact e1
    · rw [zce_al hL, j0]
      rw [h2] at e1 hNm
      have : cA = g.2.1 1 := Option.some.inj (hNm.symm.trans (hK.2 1 _ rfl).2)
      subst this
      exact e1
    · rw [zce_ai hL (Or.inr (Or.inl rfl)), i0]
      rw [h2] at e1 hNm
      have : cA = g.2.1 2 := Option.some.inj (hNm.symm.trans (hK.2 2 _ rfl).2)
      subst this
      exact e1
    · rw [zce_ai hL (Or.inr (Or.inr rfl)), i0]
      rw [h2] at e1 hNm
      have : cA = g.2.1 3 := Option.some.inj (hNm.symm.trans (hK.2 3 _ rfl).2)
      subst this
      exact e1
  have kz := kk p l e s m args below meth c H1 locs la C (zAt_new hA hn rfl z1 o1 (fun j hj => zN_other hj) hcell) (hS.make z1 o1) hz ⟨by show T0.1 ≤ T.1 + 1; omega, by show T0.2.1 ≤ T.2.1 + N; omega⟩ hl
  have ev : zv g (.ref T.1) = .ref H.size := by rw [zv_lt hn, hA.1]
  have ec : T.1 - T0.1 + 1 = (zNT T kd N N).1 - T0.1 := by show _ = T.1 + 1 - T0.1; omega
  have es : T.2.1 - T0.2.1 + N = (zNT T kd N N).2.1 - T0.2.1 := by show _ = T.2.1 + N - T0.2.1; omega
  rw [ec, es]
  show W p l e _ s m args below meth c H1 locs _ _ _ (F0 m (pc + 2) la (.ref H.size :: st.map (zv g)))
  rw [← ev]
  exact kz
theorem z_anew {idx kd : Nat} {C0 : String} {n : Int32} {N : Nat} (hcl : Cond.classLink M.1 idx C0 ∈ zTb) (hkd : kd = 24 ∧ C0 = RX8 ∨ kd = 25 ∧ C0 = RX0 ∨ kd = 26 ∧ C0 = RX7) (hn0 : ¬ n < 0) (hN : n.toNatClampNeg = N) (hN2 : N ≤ 1000000) (hn : T.1 < 10000) (hT1 : T.1 + 1 ≤ T'.1) (hT2 : T.2.1 + N ≤ T'.2.1) (hd : decode M.2.2.1 pc = .ok (.anewarray idx, 3)) (kk : zg g d M T0 (pc + 3) ls (.ref T.1 :: st) (zNT T kd N N) (zNS T S) v T' S') : zg g d M T0 pc ls (.int n :: st) T S v T' S' := by
  intro p l e s m args below meth c H locs la C hA hS hz h1 hl
  subst hN
  have hts := C.2.2.2.2.2.1
  have hK := C.2.2.2.2.2.2.2.2.1
  have hX := C.2.2.2.2.2.2.2.2.2.1
  have hover : va_AO C0 s := by
    rcases hkd with ⟨-, rfl⟩ | ⟨-, rfl⟩ | ⟨-, rfl⟩
    · exact hX.2.2.2.1
    · exact hX.2.2.2.2.1
    · exact hX.2.2.2.2.2
  refine W.anew C.1 C.2.1 C.2.2.2.2.1 (hts _ hcl) (va_AO.use hover) rfl hd (n := n) (rest := st.map (zv g)) rfl hn0 (by omega) (by show _ ≤ T'.1 - T0.1; omega) (by show _ ≤ T'.2.1 - T0.2.1; omega) fun cA kA comp f1 f2 f3 f4 => ?_
  generalize hH1 : H.push ({ cls := cA, slots := Array.replicate n.toNatClampNeg .null, vm := .none } : Cell) = H1
  have z1 : H1.size = H.size + 1 := by rw [← hH1, Array.size_push]
  have e1 : H1[H.size]? = some (arrV cA n.toNatClampNeg (fun _ => .null)) := by rw [← hH1, Array.getElem?_push_size, ← arrV_new]
  have o1 : ∀ q : Nat, q < H.size → H1[q]? = H[q]? := fun q hq => by rw [← hH1, Array.getElem?_push, if_neg (Nat.ne_of_lt hq)]
  have hcell : va_at g.1 vwCl (g.2.2.1 + T.1, zce g (zNT T kd n.toNatClampNeg n.toNatClampNeg) (zNS T S) T.1) H1 := by
    have hL : zL (zNT T kd n.toNatClampNeg n.toNatClampNeg) T.1 kd n.toNatClampNeg := ⟨by show T.1 < T.1 + 1; omega, if_pos rfl, if_pos rfl⟩
    rw [hA.1] at e1
    have r0 : (fun j => zro g ((zNT T kd n.toNatClampNeg n.toNatClampNeg).2.2.2.2 T.1 j)) = fun _ => none := by
      funext b
      rw [show (zNT T kd n.toNatClampNeg n.toNatClampNeg).2.2.2.2 T.1 b = 10000 from if_pos rfl]
      unfold zro
      exact if_pos rfl
    rcases hkd with ⟨rfl, rfl⟩ | ⟨rfl, rfl⟩ | ⟨rfl, rfl⟩
    · rw [zce_aq hL (by omega), r0]
      obtain ⟨kA', comp', a1, a2, a3, a4⟩ := (hK.2 4 _ rfl).2
      have : cA = g.2.1 4 := Option.some.inj (f1.symm.trans a4)
      subst this
      exact e1
    · rw [zce_aq hL (by omega), r0]
      obtain ⟨kA', comp', a1, a2, a3, a4⟩ := (hK.2 5 _ rfl).2
      have : cA = g.2.1 5 := Option.some.inj (f1.symm.trans a4)
      subst this
      exact e1
    · rw [zce_aq hL (by omega), r0]
      obtain ⟨kA', comp', a1, a2, a3, a4⟩ := (hK.2 6 _ rfl).2
      have : cA = g.2.1 6 := Option.some.inj (f1.symm.trans a4)
      subst this
      exact e1
  have kz := kk p l e s m args below meth c H1 locs la C (zAt_new hA hn rfl z1 o1 (fun j hj => zN_other hj) hcell) (hS.make z1 o1) hz ⟨by show T0.1 ≤ T.1 + 1; omega, by show T0.2.1 ≤ T.2.1 + n.toNatClampNeg; omega⟩ hl
  have ev : zv g (.ref T.1) = .ref H.size := by rw [zv_lt hn, hA.1]
  have ec : T.1 - T0.1 + 1 = (zNT T kd n.toNatClampNeg n.toNatClampNeg).1 - T0.1 := by show _ = T.1 + 1 - T0.1; omega
  have es : T.2.1 - T0.2.1 + n.toNatClampNeg = (zNT T kd n.toNatClampNeg n.toNatClampNeg).2.1 - T0.2.1 := by show _ = T.2.1 + n.toNatClampNeg - T0.2.1; omega
  rw [ec, es]
  show W p l e _ s m args below meth c H1 locs _ _ _ (F0 m (pc + 3) la (.ref H.size :: st.map (zv g)))
  rw [← ev]
  exact kz
theorem z_aast {k kd n r ci : Nat} {i : Int32} {C0 : String} {X : u_T} {N : Nat} {ty : Nat → FieldType} (hC : zC ci C0 X N ty) (hL : zL T k kd n) (hk : 24 ≤ kd) (ht : ∀ g, (zty g)[kd - 20]? = some (g.2.1 (kd - 20), .object C0)) (hO : zO T r ci) (hi : vp_in i n) (hd : decode M.2.2.1 pc = .ok (.aastore, 1)) (kk : zg g d M T0 (pc + 1) ls st (zQ T k i.toNatClampNeg r) S v T' S') : zg g d M T0 pc ls (.ref r :: .int i :: .ref k :: st) T S v T' S' := by
  intro p l e s m args below meth c H locs la C hA hS hz h1 hl
  show W p l e _ s m args below meth c H locs _ _ _ (F0 m pc la (zv g (.ref r) :: .int i :: zv g (.ref k) :: st.map (zv g)))
  rw [zL_lt hA hL, zO_lt hA hO]
  have hK := C.2.2.2.2.2.2.2.2.1
  have hlt : i.toNatClampNeg < n := Nat.not_le.mp fun q => hi (Or.inr q)
  have h0 : ¬ i < 0 := fun q => hi (Or.inl q)
  obtain ⟨r', hr', cellV, g1, g2, g3, -⟩ := zAt_obj hA hO hC.2.2.2.2.2.1
  have hcls := (hK.1 ci _ hC.1).2
  obtain ⟨kA, comp, k1, k2, k3, -⟩ := (hK.2 (kd - 20) _ (ht g)).2
  have hcomp : comp = g.1.1 ci := Option.some.inj (k3.symm.trans hcls.1)
  subst hcomp
  obtain ⟨kC, hkC, -⟩ := hcls.2
  refine W.aast C.1 C.2.1 (zAt_aq hA hL hk) (fun q h => by cases h) (fun h => by cases h) k1 k2 rfl hkC ⟨h0, by show _ < (arrV _ _ _).slots.size; rw [arrV_size]; exact hlt⟩ g1 (fun q h => by rw [g3] at h; cases h) (by rw [g2]; exact hkC) (by rw [g2]; exact va_assign hcls) rfl rfl hd fun H1 e1 z oq => ?_
  refine kk p l e s m args below meth c H1 _ la C (zAt_upd hA rfl z oq (fun a ha => zce_congr rfl rfl rfl rfl (zQ_other ha)) ?_) (hS.put z oq (by show g.2.2.1 ≤ g.2.2.1 + k; omega)) hz h1 hl
  have hL' : zL (zQ T k i.toNatClampNeg r) k kd n := hL
  rw [zce_aq hL' hk, zQ_same]
  show H1[g.2.2.1 + k]? = some (vp_cell _ _)
  rw [e1]
  rw [vp_cell_q, vp_cell_q, arrV_store]
  congr 2
  funext q
  have er : zro g r = some (g.2.2.1 + r) := zro_lt (by have := hA.2.1; have := hO.1; omega)
  by_cases hq : q = i.toNatClampNeg
  · subst hq
    simp [updV, va_rf, er]
  · simp [updV, hq]
theorem z_copy {idx a b n0 n1 : Nat} {sp dp n : Int32} (hlk : Cond.methodLink M.1 idx arraycopyName ∈ zTb) (hnat : Cond.native arraycopyName ∈ zTb) (hsc : Cond.static arraycopyName ∈ zTb) (hini : Cond.initialized "java/lang/System" ∈ zTb) (ha : zL T a 20 n0) (hb : zL T b 20 n1) (q1 : ¬ sp < 0) (q2 : ¬ dp < 0) (q3 : ¬ n < 0) (h4 : sp.toNatClampNeg + n.toNatClampNeg ≤ n0) (h5 : dp.toNatClampNeg + n.toNatClampNeg ≤ n1) (hd1 : 1 ≤ d) (hst : (st.map fun v => v.category).sum ≤ 8) (hd : decode M.2.2.1 pc = .ok (.invokestatic idx, 3)) (kk : zg g d M T0 (pc + 3) ls st T (zCp S a b sp.toNatClampNeg dp.toNatClampNeg n.toNatClampNeg) v T' S') : zg g d M T0 pc ls (.int n :: .int dp :: .ref b :: .int sp :: .ref a :: st) T S v T' S' := by
  have nn : ∀ z : Int32, ¬ z < 0 → z.toInt = (z.toNatClampNeg : Int) := by
    intro z hz
    have hz0 : (0 : Int) ≤ z.toInt := by
      have := Int32.not_lt.mp hz
      simpa using Int32.le_iff_toInt_le.mp this
    show z.toInt = ((z.toInt.toNat : Nat) : Int)
    omega
  intro p l e s m args below meth c H locs la C hA hS hz h1 hl
  show W p l e _ s m args below meth c H locs _ _ _ (F0 m pc la (.int n :: .int dp :: zv g (.ref b) :: .int sp :: zv g (.ref a) :: st.map (zv g)))
  rw [zL_lt hA ha, zL_lt hA hb]
  have hts := C.2.2.2.2.2.1
  have hK := C.2.2.2.2.2.2.2.2.1
  intro Tt hTt X
  have hc0 : H[g.2.2.1 + a]? = some (vp_cell (g.2.1 0) (n0, .inl (S.1 a))) := zAt_ai hA ha (Or.inl rfl)
  have hc1 : H[g.2.2.1 + b]? = some (vp_cell (g.2.1 0) (n1, .inl (S.1 b))) := zAt_ai hA hb (Or.inl rfl)
  obtain ⟨-, k0, hk0, cm0, hkk0⟩ := (hK.2 0 _ rfl).1 n0 (fun j => .int (S.1 a j))
  obtain ⟨-, k1, hk1, cm1, hkk1⟩ := (hK.2 0 _ rfl).1 n1 (fun j => .int (S.1 b j))
  obtain ⟨vm', X', step⟩ := X.arraycopy C.1 C.2.2.2.2.1 (hts _ hlk) (hts _ hnat) (hts _ hsc) (hts _ hini) (src := g.2.2.1 + a) (dst := g.2.2.1 + b) (cs := vp_cell (g.2.1 0) (n0, .inl (S.1 a))) (cd := vp_cell (g.2.1 0) (n1, .inl (S.1 b))) (srcPos := sp) (destPos := dp) (n := n) (by rw [hTt]; exact hc0) (by rw [hTt]; exact hc1)
    (fun _ h => by cases h) (fun _ h => by cases h) (fun h => by cases h) (fun h => by cases h) hk0 hk1 hkk0 hkk1 (by simp [refKind]) q1 q2 q3
    (by rw [nn sp q1, nn n q3]; show ¬ _ > ((arrV (g.2.1 0) n0 (fun j => .int (S.1 a j))).slots.size : Int); rw [arrV_size]; omega)
    (by rw [nn dp q2, nn n q3]; show ¬ _ > ((arrV (g.2.1 0) n1 (fun j => .int (S.1 b j))).slots.size : Int); rw [arrV_size]; omega)
    (fun vm₁ _ i hi => by
      have e : (vp_cell (g.2.1 0) (n0, .inl (S.1 a))).slots.getD (sp.toNatClampNeg + i) .null = .int (S.1 a (sp.toNatClampNeg + i)) := by
        show (arrV (g.2.1 0) n0 (fun j => .int (S.1 a j))).slots.getD _ _ = _
        rw [Array.getD_eq_getD_getElem?, arrV_read _ _ (by omega)]
        rfl
      refine ⟨?_, ?_⟩
      · rw [e]
        rfl
      · rw [e]
        exact trivial)
    (g := F0 m pc la (.int n :: .int dp :: .ref (g.2.2.1 + b) :: .int sp :: .ref (g.2.2.1 + a) :: st.map (zv g))) rfl (by rw [C.2.2.2.1]; exact hl.1) (rest := st.map (zv g)) rfl (by rw [C.2.1]; exact hd) hd1 (by show 2 * 0 + ((st.map (zv g)).map fun v => v.category).sum + (nativeFrameWords "java/lang/System" "arraycopy" 5 + 11) ≤ 64 * d; rw [zcats]; have e5 : nativeFrameWords "java/lang/System" "arraycopy" 5 ≤ 40 := (by decide +kernel); omega)
  have e1 : copied (vp_cell (g.2.1 0) (n0, .inl (S.1 a))) (vp_cell (g.2.1 0) (n1, .inl (S.1 b))) sp dp n = vp_cell (g.2.1 0) (n1, .inl (va_cpy (S.1 a) (S.1 b) sp.toNatClampNeg dp.toNatClampNeg n.toNatClampNeg)) := va_copied (fun z => .int z) (g.2.1 0) (g.2.1 0) (S.1 a) (S.1 b) h4
  rw [e1] at X' step
  have hlq : g.2.2.1 + b < H.size := (Array.getElem?_eq_some_iff.mp hc1).1
  generalize hH1 : H.setIfInBounds (g.2.2.1 + b) (vp_cell (g.2.1 0) (n1, .inl (va_cpy (S.1 a) (S.1 b) sp.toNatClampNeg dp.toNatClampNeg n.toNatClampNeg))) = H1
  have hheap : ((Tt.setVm vm').setCell (g.2.2.1 + b) (vp_cell (g.2.1 0) (n1, .inl (va_cpy (S.1 a) (S.1 b) sp.toNatClampNeg dp.toNatClampNeg n.toNatClampNeg)))).heap = H1 := by rw [← hH1, ← hTt]; rfl
  have oq : ∀ q : Nat, q ≠ g.2.2.1 + b → H1[q]? = H[q]? := fun q hq => by rw [← hH1]; simp [Array.getElem?_setIfInBounds, Ne.symm hq]
  have z1 : H1.size = H.size := by rw [← hH1]; simp
  have hcell : va_at g.1 vwCl (g.2.2.1 + b, zce g T (zCp S a b sp.toNatClampNeg dp.toNatClampNeg n.toNatClampNeg) b) H1 := by
    rw [zce_ai hb (Or.inl rfl), zCp_same]
    show H1[g.2.2.1 + b]? = some _
    rw [← hH1]
    simp [Array.getElem?_setIfInBounds, hlq]
  obtain ⟨t, a1, b1⟩ := kk p l e s m args below meth c H1 _ la C (zAt_upd hA rfl z1 oq (fun a ha => zce_congr (zCp_other ha) rfl rfl rfl rfl) hcell) ⟨by rw [z1]; exact hS.1, fun q g1 g2 => by
      rw [oq q (fun e => g2 (by rw [e]; show g.2.2.1 ≤ g.2.2.1 + b; omega))]
      exact hS.2.1 q g1 g2, fun q hq => by
      rcases List.mem_append.mp hq with h | h
      · exact hS.2.2 q h
      · obtain ⟨z, -, hz⟩ := List.mem_map.mp h
        rw [← hz]
        show g.2.2.1 ≤ g.2.2.1 + b
        omega⟩ hz h1 hl _ hheap X'
  exact ⟨t, step t a1, b1⟩
end Z9
