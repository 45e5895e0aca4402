def zal : Nat → List Value → List (Option Value)
  | n, [] => List.replicate n none
  | n, v :: vs => if v.category = 2 then some v :: none :: zal (n - 2) vs else some v :: zal (n - 1) vs
theorem zal_args {g : zG} : ∀ (vs : List Value) (n i : Nat) (q : Nat × Value), q ∈ zas g i (zal n vs) → q ∈ lv_args i (vs.map (zv g)) := by
  intro vs
  induction vs with
  | nil =>
    intro n i q hq
    obtain ⟨k, w, hk, -⟩ := (zas_mem _ _ _).mp hq
    simp [zal, List.getElem?_replicate] at hk
  | cons v vs ih =>
    intro n i q hq
    rw [List.map_cons, lv_args, zv_cat]
    by_cases hc : v.category = 2
    · rw [zal, if_pos hc] at hq
      rw [if_pos hc]
      have hq' : q ∈ (i, zv g v) :: zas g (i + 1 + 1) (zal (n - 2) vs) := hq
      rcases List.mem_cons.mp hq' with h | h
      · rw [h]; exact List.mem_cons_self
      · exact List.mem_cons_of_mem _ (ih _ _ _ h)
    · rw [zal, if_neg hc] at hq
      rw [if_neg hc]
      have hq' : q ∈ (i, zv g v) :: zas g (i + 1) (zal (n - 1) vs) := hq
      rcases List.mem_cons.mp hq' with h | h
      · rw [h]; exact List.mem_cons_self
      · exact List.mem_cons_of_mem _ (ih _ _ _ h)
theorem lg_sl_zv (g : zG) : ∀ vs : List Value, (lg_sl (vs.map (zv g))).length = (lg_sl vs).length := by
  intro vs
  induction vs with
  | nil => rfl
  | cons v vs ih =>
    have e1 : lg_sl ((v :: vs).map (zv g)) = (if (zv g v).category = 2 then [Slot.val (zv g v), .second] else [.val (zv g v)]) ++ lg_sl (vs.map (zv g)) := by simp [lg_sl]
    have e2 : lg_sl (v :: vs) = (if v.category = 2 then [Slot.val v, .second] else [.val v]) ++ lg_sl vs := by simp [lg_sl]
    rw [e1, e2, List.length_append, List.length_append, ih, zv_cat]
    split <;> rfl
theorem zcats (g : zG) (st : List Value) : ((st.map (zv g)).map fun v => v.category).sum = (st.map fun v => v.category).sum := by
  rw [List.map_map]
  congr 1
  apply List.map_congr_left
  intro v _
  exact zv_cat g v
theorem zPc_blind (g : zG) (av : List Value) (T : zT) (S : zS) : FrameBlind (zPc g av T S) := fun a U fr mk q => ⟨q.1, q.2.1, va_K.moved (u := U) (U := U.calling fr mk a) (Vm.Alike.refl U.vm) q.2.2.1, zX.same (u := U) (U := U.calling fr mk a) rfl q.2.2.2.1, q.2.2.2.2⟩
theorem zPc_go {g : zG} {M : zM} {p : Program} {s : State} {m : MethodId} {args : Array Value} {meth : Method} {c : Code} {H : Heap} {locs : List Loc} {T : zT} {S : zS} (C : zCx g M p s m args meth c) (hA : zAt g T S H) (hS : va_S (zA g) s.heap H locs) {as : Array Value} {av : List Value} (ha : as = (av.map (zv g)).toArray) : ∀ U : State, U.heap = H → s.WarmedH U.vm → zPc g av T S as U := by
  intro U hU hW
  have hb := C.2.2.2.2.2.2.2.2.2.2
  exact ⟨ha, by rw [hU]; exact hA, va_K.moved hW.alike C.2.2.2.2.2.2.2.2.1, by rw [hU]; exact zX.warm hW (zX.kept C.2.2.2.2.2.2.2.2.2.1 hb hS.2.1), by rw [hU]; exact Nat.le_trans hb hS.1⟩
/-- a method's walk is its contract -/
theorem zGM_of {d : Nat} {M : zM} {av : List Value} {T T' : zT} {S S' : zS} {v : Option Value} (hy : plainName M.2.1.cls = true) (hown : M.2.1.cls = M.1) (ha : (lg_sl av).length ≤ M.2.2.2.1) (h : ∀ g, zg g d M T 0 (zal M.2.2.2.1 av) [] T S v T' S') : zGM d M av T S v T' S' := by
  intro g l
  refine Met.ofW (cc := M.2.2.1) (maxL := M.2.2.2.1) (ret := M.2.2.2.2) hy rfl ?_
  intro p e s m args below meth c s₁ B hml hv
  obtain ⟨rfl, hA, hK, hX, hb⟩ := hv
  have hts := atoms_spec (ws := zws M) B.pre
  have hf : s.vm.findClass M.1 = some m.cls := by rw [← hown]; exact findClass_of_methodNamed B.named
  have C : zCx g M p s m ((av.map (zv g)).toArray) meth c := ⟨B.exec, B.bytes, B.returns, hml, hf, fun w hw => hts w (List.mem_cons_of_mem _ hw), B.notSynchronized, (name_of_methodNamed B.named B.method).1, hK, hX, hb⟩
  have hl := lv_entry (av.map (zv g)) (n := M.2.2.2.1) (by rw [lg_sl_zv]; exact ha)
  rw [lg_entry_eq]
  refine W.cs (Nat.sub_self T.1).symm (Nat.sub_self T.2.1).symm ?_
  exact h g p l e s m _ below meth c s.heap [] _ C hA va_S.rf hA.1 ⟨Nat.le_refl _, Nat.le_refl _⟩ (lv_has_sub hl (zal_args av _ 0))
section Z8
variable {g : zG} {d : Nat} {M : zM} {T0 T T' : zT} {pc : Nat} {ls : List (Option Value)} {st : List Value} {S S' : zS} {v : Option Value}
theorem z_iret {x : Int32} (hr : M.2.2.2.2 = some .int) (hd : decode M.2.2.1 pc = .ok (.ireturn, 1)) : zg g d M T0 pc ls [.int x] T S (some (.int x)) T S :=
  fun p l e s m args below meth c H locs la C hA hS hz h1 hl => W.iret (v := x) C.1 C.2.1 (C.2.2.1.trans hr) (fun t ht hW => ⟨rfl, by rw [ht]; exact hA, hS.F ht⟩) hS.2.2 hd C.2.2.2.2.2.2.1
theorem z_zret {x : Int32} (hr : M.2.2.2.2 = some .boolean) (hx : x = 0 ∨ x = 1) (hd : decode M.2.2.1 pc = .ok (.ireturn, 1)) : zg g d M T0 pc ls [.int x] T S (some (.int x)) T S :=
  fun p l e s m args below meth c H locs la C hA hS hz h1 hl => W.zret (v := x) C.1 C.2.1 (C.2.2.1.trans hr) (by rcases hx with rfl | rfl <;> rfl) (fun t ht hW => ⟨rfl, by rw [ht]; exact hA, hS.F ht⟩) hS.2.2 hd C.2.2.2.2.2.2.1
theorem z_lret {x : Int64} (hr : M.2.2.2.2 = some .long) (hd : decode M.2.2.1 pc = .ok (.lreturn, 1)) : zg g d M T0 pc ls [.long x] T S (some (.long x)) T S :=
  fun p l e s m args below meth c H locs la C hA hS hz h1 hl => W.lret (v := x) C.1 C.2.1 (C.2.2.1.trans hr) (fun t ht hW => ⟨rfl, by rw [ht]; exact hA, hS.F ht⟩) hS.2.2 hd C.2.2.2.2.2.2.1
theorem z_aret {x : Nat} {rt : FieldType} (hr : M.2.2.2.2 = some rt) (hrt : (∃ n, rt = .object n) ∨ ∃ t, rt = .array t) (hd : decode M.2.2.1 pc = .ok (.areturn, 1)) : zg g d M T0 pc ls [.ref x] T S (some (.ref x)) T S :=
  fun p l e s m args below meth c H locs la C hA hS hz h1 hl => W.aret (v := zv g (.ref x)) C.1 C.2.1 (C.2.2.1.trans hr) hrt (zv_ref g x) (fun t ht hW => ⟨rfl, by rw [ht]; exact hA, hS.F ht⟩) hS.2.2 hd C.2.2.2.2.2.2.1
theorem z_vret (hr : M.2.2.2.2 = none) (hd : decode M.2.2.1 pc = .ok (.return_, 1)) : zg g d M T0 pc ls [] T S none T S :=
  fun p l e s m args below meth c H locs la C hA hS hz h1 hl => W.vret C.1 C.2.1 (C.2.2.1.trans hr) (fun t ht hW => ⟨rfl, by rw [ht]; exact hA, hS.F ht⟩) hS.2.2 hd C.2.2.2.2.2.2.1
theorem z_objInit {idx k : Nat} (hk : k < 10000) (hlk : Cond.methodLink M.1 idx objectInit ∈ zTb) (hin : Cond.instanceMethod objectInit ∈ zTb) (hco : Cond.code objectInit ⟨#[0xb1]⟩ 1 none ∈ zTb) (hd1 : 1 ≤ d) (hst : (st.map fun v => v.category).sum ≤ 8) (hd : decode M.2.2.1 pc = .ok (.invokespecial idx, 3)) (kk : zg g d M T0 (pc + 3) ls st T S v T' S') : zg g d M T0 pc ls (.ref k :: st) T S v T' S' := by
  intro p l e s m args below meth c H locs la C hA hS hz h1 hl
  show W p l e _ s m args below meth c H locs _ _ _ (F0 m pc la (zv g (.ref k) :: st.map (zv g)))
  rw [zv_lt hk]
  refine W.objInit C.1 C.2.1 C.2.2.2.2.1 (C.2.2.2.2.2.1 _ hlk) (C.2.2.2.2.2.1 _ hin) (C.2.2.2.2.2.1 _ hco) rfl (by rw [C.2.2.2.1]; exact hl.1) rfl hd hd1 ?_ (kk p l e s m args below meth c H locs la C hA hS hz h1 hl)
  show 2 * 0 + ((st.map (zv g)).map fun v => v.category).sum + 12 ≤ 64 * d
  rw [zcats]
  omega
/-- behind a call -/
theorem z_ran {T1 : zT} {S1 : zS} {r : Option Value} {rest stA : List Value} {p : Program} {l : Launch} {e : Env} {s : State} {m : MethodId} {args a : Array Value} {below : List Frame} {meth : Method} {c : Code} {H : Heap} {locs : List Loc} {la : Array Slot} (C : zCx g M p s m args meth c) (hS : va_S (zA g) s.heap H locs) (hz : s.heap.size = g.2.2.1 + T0.1) (h1 : T0.1 ≤ T.1 ∧ T0.2.1 ≤ T.2.1) (hl : lv_has la M.2.2.2.1 (zas g 0 ls)) (hT : T.1 ≤ T1.1 ∧ T.2.1 ≤ T1.2.1)
    (hr : va_Run p l e (zR d T0 T') s m args below meth c H locs (T.1 - T0.1) (T.2.1 - T0.2.1) (T1.1 - T.1) (T1.2.1 - T.2.1) (F0 m pc la stA) (rest.map (zv g)) (zQc g r T1 S1 a) (zA g)) (kk : zg g d M T0 (pc + 3) ls (r.toList ++ rest) T1 S1 v T' S') : W p l e (zR d T0 T') s m args below meth c H locs (T.1 - T0.1) (T.2.1 - T0.2.1) (MQ below (zQc g v T' S') args s (T'.1 - T0.1) (T'.2.1 - T0.2.1) (zA g)) (F0 m pc la stA) := by
  intro Tt hTt X
  obtain ⟨v', st₀, t, Tt', L, e0, X', hL, e1, e2, ⟨q1, q2, q3⟩, hgo⟩ := hr Tt hTt X
  cases q1
  have ec : T.1 - T0.1 + (T1.1 - T.1) = T1.1 - T0.1 := by omega
  have es : T.2.1 - T0.2.1 + (T1.2.1 - T.2.1) = T1.2.1 - T0.2.1 := by omega
  rw [ec, es] at X'
  have hS' : va_S (zA g) s.heap t.heap (locs ++ L) := by
    refine ⟨Nat.le_trans hS.1 (by rw [← e0]; exact q3.1), fun q g1 g2 => ?_, fun q hq => ?_⟩
    · rw [q3.2 q (by rw [e0]; exact Nat.lt_of_lt_of_le g1 hS.1) g2, e0]
      exact hS.2.1 q g1 g2
    · rcases List.mem_append.mp hq with h | h
      · exact hS.2.2 q h
      · exact hL q h
  obtain ⟨t2, a1, b1⟩ := kk p l e s m args below meth c t.heap (locs ++ L) la C q2 hS' hz ⟨Nat.le_trans h1.1 hT.1, Nat.le_trans h1.2 hT.2⟩ hl Tt' e1 X'
  refine ⟨t2, hgo t2 ?_, b1⟩
  have est : (r.map (zv g)).toList ++ rest.map (zv g) = (r.toList ++ rest).map (zv g) := by cases r <;> simp
  show Steps p.tables e below (Tt'.setTop (F0 m (pc + 3) la ((r.map (zv g)).toList ++ rest.map (zv g)))) t2
  rw [est]
  exact a1
/-- what the tables say of a call's pool entry -/
def zKC (own : String) (idx : Nat) (M2 : zM) (n : Nat) : Prop :=
  Cond.methodLink own idx M2.2.1 ∈ zTb ∧ Cond.initialized M2.2.1.cls ∈ zTb ∧ Cond.code M2.2.1 M2.2.2.1 M2.2.2.2.1 M2.2.2.2.2 ∈ zTb ∧ (M2.2.1.cls ≠ "java/lang/invoke/MethodHandle" ∧ M2.2.1.cls ≠ "java/lang/invoke/VarHandle" ∧ (parseMethodDescriptor M2.2.1.desc).map (fun d => d.parameters.length) = some n) ∧ M2.2.2.2.1 ≤ 45
theorem zKC_go {own : String} {idx n : Nat} {M2 : zM} (h : zKC own idx M2 n) {p : Program} {s : State} {m : MethodId} {args : Array Value} {meth : Method} {c : Code} (C : zCx g M p s m args meth c) (ho : own = M.1) {d2 : Nat} (hd2 : d2 + 1 ≤ d) (T1 : zT) : CallB (zR d T0 T') s args M.1 idx M2.2.1 M2.2.2.1 M2.2.2.2.1 M2.2.2.2.2 (zws M2) (zR d2 T T1) (T1.1 - T.1) (T1.2.1 - T.2.1) n := by
  subst ho
  obtain ⟨k1, k2, k3, k4, k5⟩ := h
  have hG : GoodIn zTb (zws M2) := by
    intro w hw
    rcases List.mem_cons.mp hw with rfl | hw
    · exact ⟨k3, zTb_good k3⟩
    · exact ⟨hw, zTb_good hw⟩
  exact callB_of n C.2.2.2.2.2.1 hG rfl rfl rfl (C.2.2.2.2.2.1 _ k2) (C.2.2.2.2.2.1 _ k1) k4 ⟨hd2, by show 8 + (M2.2.2.2.1 + 11) + 64 * d2 ≤ 64 * d; omega⟩
theorem z_callV {idx ci n b d2 : Nat} {M2 : zM} {As rest : List Value} {r : Option Value} {T1 : zT} {S1 : zS} {X : u_T} {N : Nat} {ty : Nat → FieldType} (hC : zC ci M2.2.1.cls X N ty) (hq : zKC M.1 idx M2 n) (hi : Cond.instanceMethod M2.2.1 ∈ zTb) (hs : Cond.selects M2.2.1.cls M2.2.1 M2.2.1 ∈ zTb) (hO : zO T b ci) (hM : zGM d2 M2 (.ref b :: As) T S r T1 S1) (hst : st = As.reverse ++ .ref b :: rest) (hn : As.length = n) (hrest : (rest.map fun v => v.category).sum ≤ 8) (hd2 : d2 + 1 ≤ d) (hT : T.1 ≤ T1.1 ∧ T.2.1 ≤ T1.2.1) (hT' : T1.1 ≤ T'.1 ∧ T1.2.1 ≤ T'.2.1)
    (hd : decode M.2.2.1 pc = .ok (.invokevirtual idx, 3)) (kk : zg g d M T0 (pc + 3) ls (r.toList ++ rest) T1 S1 v T' S') : zg g d M T0 pc ls st T S v T' S' := by
  intro p l e s m args below meth c H locs la C hA hS hz h1 hl
  subst hst
  have hts := C.2.2.2.2.2.1
  have hrun := va_runV (meth := meth) (p := p) (l := l) (e := e) (R := zR d T0 T') (below := below) (H := H) (locs := locs) (cells := T.1 - T0.1) (slots := T.2.1 - T0.2.1) (nL := M.2.2.2.1) (As := As.map (zv g)) (rest := rest.map (zv g)) (g := F0 m pc la ((As.reverse ++ .ref b :: rest).map (zv g))) (b := g.2.2.1 + b) (C := M2.2.1.cls) ⟨C.1, C.2.1, C.2.2.2.1, C.2.2.2.2.1, hts⟩ (hM g l) ⟨zKC_go (T0 := T0) (T' := T') (T := T) hq C rfl hd2 T1, hts _ hi, hts _ hs⟩ ⟨zPc_blind g _ T S, va_recv C.2.2.2.2.2.2.2.2.1 (zP1 (zAt_obj hA hO hC.2.2.2.2.2.1)) hC.1 (q0 := 0) rfl, zPc_go C hA hS (by rw [List.map_cons, zO_lt hA hO])⟩ rfl (by rw [List.length_map]; exact hn) hl.1 (by show (As.reverse ++ .ref b :: rest).map (zv g) = _; rw [List.map_append, List.map_cons, List.map_reverse, zO_lt hA hO]) (lv_room (by rw [zcats]; exact hrest)) hd ⟨by show _ ≤ T'.1 - T0.1; omega, by show _ ≤ T'.2.1 - T0.2.1; omega⟩
  exact z_ran C hS hz h1 hl hT hrun kk
theorem z_callS {idx n d2 : Nat} {M2 : zM} {As rest : List Value} {r : Option Value} {T1 : zT} {S1 : zS} (hq : zKC M.1 idx M2 n) (hi : Cond.static M2.2.1 ∈ zTb) (hM : zGM d2 M2 As T S r T1 S1) (hst : st = As.reverse ++ rest) (hn : As.length = n) (hrest : (rest.map fun v => v.category).sum ≤ 8) (hd2 : d2 + 1 ≤ d) (hT : T.1 ≤ T1.1 ∧ T.2.1 ≤ T1.2.1) (hT' : T1.1 ≤ T'.1 ∧ T1.2.1 ≤ T'.2.1)
    (hd : decode M.2.2.1 pc = .ok (.invokestatic idx, 3)) (kk : zg g d M T0 (pc + 3) ls (r.toList ++ rest) T1 S1 v T' S') : zg g d M T0 pc ls st T S v T' S' := by
  intro p l e s m args below meth c H locs la C hA hS hz h1 hl
  subst hst
  have hts := C.2.2.2.2.2.1
  have hrun := va_runS (meth := meth) (p := p) (l := l) (e := e) (R := zR d T0 T') (below := below) (H := H) (locs := locs) (cells := T.1 - T0.1) (slots := T.2.1 - T0.2.1) (nL := M.2.2.2.1) (As := As.map (zv g)) (rest := rest.map (zv g)) (g := F0 m pc la ((As.reverse ++ rest).map (zv g))) ⟨C.1, C.2.1, C.2.2.2.1, C.2.2.2.2.1, hts⟩ (hM g l) ⟨zKC_go (T0 := T0) (T' := T') (T := T) hq C rfl hd2 T1, hts _ hi⟩ ⟨zPc_blind g _ T S, zPc_go C hA hS rfl⟩ rfl (by rw [List.length_map]; exact hn) hl.1 (by show (As.reverse ++ rest).map (zv g) = _; rw [List.map_append, List.map_reverse]) (lv_room (by rw [zcats]; exact hrest)) hd ⟨by show _ ≤ T'.1 - T0.1; omega, by show _ ≤ T'.2.1 - T0.2.1; omega⟩
  exact z_ran C hS hz h1 hl hT hrun kk
theorem z_callI {idx ci n b d2 : Nat} {M2 : zM} {As rest : List Value} {T1 : zT} {S1 : zS} (hret : M2.2.2.2.2 = none) (hy1 : M2.2.1.name = "<init>") (hq : zKC M.1 idx M2 n) (hi : Cond.instanceMethod M2.2.1 ∈ zTb) (hO : zO T b ci) (hM : zGM d2 M2 (.ref b :: As) T S none T1 S1) (hst : st = As.reverse ++ .ref b :: rest) (hn : As.length = n) (hrest : (rest.map fun v => v.category).sum ≤ 8) (hd2 : d2 + 1 ≤ d) (hT : T.1 ≤ T1.1 ∧ T.2.1 ≤ T1.2.1) (hT' : T1.1 ≤ T'.1 ∧ T1.2.1 ≤ T'.2.1)
    (hd : decode M.2.2.1 pc = .ok (.invokespecial idx, 3)) (kk : zg g d M T0 (pc + 3) ls rest T1 S1 v T' S') : zg g d M T0 pc ls st T S v T' S' := by
  intro p l e s m args below meth c H locs la C hA hS hz h1 hl
  subst hst
  have hts := C.2.2.2.2.2.1
  have cw := zKC_go (T0 := T0) (T' := T') (T := T) hq C rfl hd2 T1
  rw [hret] at cw
  have hrun := va_runI (meth := meth) (p := p) (l := l) (e := e) (R := zR d T0 T') (below := below) (H := H) (locs := locs) (cells := T.1 - T0.1) (slots := T.2.1 - T0.2.1) (nL := M.2.2.2.1) (As := As.map (zv g)) (rest := rest.map (zv g)) (g := F0 m pc la ((As.reverse ++ .ref b :: rest).map (zv g))) (b := g.2.2.1 + b) ⟨C.1, C.2.1, C.2.2.2.1, C.2.2.2.2.1, hts⟩ (hM g l) ⟨cw, hy1, hts _ hi⟩ ⟨zPc_blind g _ T S, zPc_go C hA hS (by rw [List.map_cons, zO_lt hA hO])⟩ rfl (by rw [List.length_map]; exact hn) hl.1 (by show (As.reverse ++ .ref b :: rest).map (zv g) = _; rw [List.map_append, List.map_cons, List.map_reverse, zO_lt hA hO]) (lv_room (by rw [zcats]; exact hrest)) hd ⟨by show _ ≤ T'.1 - T0.1; omega, by show _ ≤ T'.2.1 - T0.2.1; omega⟩
  exact z_ran (r := none) C hS hz h1 hl hT hrun kk
theorem z_mmax {idx : Nat} {x y : Int32} {r : Int32} (hlk : Cond.methodLink M.1 idx Lib.Math.max.name ∈ zTb) (hsc : Cond.static Lib.Math.max.name ∈ zTb) (hini : Cond.initialized "java/lang/Math" ∈ zTb) (hco : Cond.code Lib.Math.max.name Lib.Math.max.code 2 (some .int) ∈ zTb) (hr : (if x < y then y else x) = r) (hd1 : 1 ≤ d) (hst : (st.map fun v => v.category).sum ≤ 8) (hT' : T.1 ≤ T'.1 ∧ T.2.1 ≤ T'.2.1) (hd : decode M.2.2.1 pc = .ok (.invokestatic idx, 3)) (kk : zg g d M T0 (pc + 3) ls (.int r :: st) T S v T' S') : zg g d M T0 pc ls (.int y :: .int x :: st) T S v T' S' := by
  subst hr
  intro p l e s m args below meth c H locs la C hA hS hz h1 hl
  have hts := C.2.2.2.2.2.1
  exact va_mmax C.1 C.2.1 (by rw [C.2.2.2.1]; exact hl.1.symm) C.2.2.2.2.1 (hts _ hlk) (hts _ hsc) (hts _ hini) (hts _ hco) hd1 (by rw [zcats]; show _ ≤ 64 * d; omega) (by show _ ≤ T'.1 - T0.1; omega) (by show _ ≤ T'.2.1 - T0.2.1; omega) hd (kk p l e s m args below meth c H locs la C hA hS hz h1 hl)
theorem z_mmin {idx : Nat} {x y : Int32} {r : Int32} (hlk : Cond.methodLink M.1 idx Lib.Math.min.name ∈ zTb) (hsc : Cond.static Lib.Math.min.name ∈ zTb) (hini : Cond.initialized "java/lang/Math" ∈ zTb) (hco : Cond.code Lib.Math.min.name Lib.Math.min.code 2 (some .int) ∈ zTb) (hr : (if y < x then y else x) = r) (hd1 : 1 ≤ d) (hst : (st.map fun v => v.category).sum ≤ 8) (hT' : T.1 ≤ T'.1 ∧ T.2.1 ≤ T'.2.1) (hd : decode M.2.2.1 pc = .ok (.invokestatic idx, 3)) (kk : zg g d M T0 (pc + 3) ls (.int r :: st) T S v T' S') : zg g d M T0 pc ls (.int y :: .int x :: st) T S v T' S' := by
  subst hr
  intro p l e s m args below meth c H locs la C hA hS hz h1 hl
  have hts := C.2.2.2.2.2.1
  exact va_mmin C.1 C.2.1 (by rw [C.2.2.2.1]; exact hl.1.symm) C.2.2.2.2.1 (hts _ hlk) (hts _ hsc) (hts _ hini) (hts _ hco) hd1 (by rw [zcats]; show _ ≤ 64 * d; omega) (by show _ ≤ T'.1 - T0.1; omega) (by show _ ≤ T'.2.1 - T0.2.1; omega) hd (kk p l e s m args below meth c H locs la C hA hS hz h1 hl)
end Z8
