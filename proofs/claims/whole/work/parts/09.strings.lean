def zsE (i : Nat) : String × Nat × String × List Int32 := zSt.getD i ("", 0, "", [])
def zsN (i : Nat) : Nat := (zsE i).2.2.2.length
def zsL (i : Nat) : Int32 := Int32.ofNat (zsN i)
def zsC (i k : Nat) : Int32 := (zsE i).2.2.2.getD k 0 &&& 255
theorem zsE_at {i : Nat} (h : i < 27) : zSt[i]? = some (zsE i) := by
  have hl : zSt.length = 27 := by decide +kernel
  unfold zsE
  rw [List.getD_eq_getElem?_getD, List.getElem?_eq_getElem (by rw [hl]; exact h)]
  rfl
theorem zsN_lt : ∀ i, i < 27 → zsN i < 1000 := by decide +kernel
theorem zv_str {g : zG} {i : Nat} : zv g (.ref (10002 + i)) = .ref (g.2.2.2.1 (i + 1)) := by
  have h := zv_gt (g := g) (k := i + 1)
  rw [show 10001 + (i + 1) = 10002 + i by omega] at h
  exact h
theorem zv_byt {g : zG} {i : Nat} : zv g (.ref (20001 + i)) = .ref (g.2.2.2.1 (i + 10000)) := by
  have h := zv_gt (g := g) (k := i + 10000)
  rw [show 10001 + (i + 10000) = 20001 + i by omega] at h
  exact h
section Z11
variable {g : zG} {d : Nat} {M : zM} {T0 T T' : zT} {pc : Nat} {ls : List (Option Value)} {st : List Value} {S S' : zS} {v : Option Value} {i : Nat}
theorem z_ldcS {idx : Nat} (hi : zSt[i]? = some (M.1, idx, (zsE i).2.2)) (hd : decode M.2.2.1 pc = .ok (.ldc idx, 2)) (kk : zg g d M T0 (pc + 2) ls (.ref (10002 + i) :: st) T S v T' S') : zg g d M T0 pc ls st T S v T' S' := by
  intro p l e s m args below meth c H locs la C hA hS hz h1 hl
  have k := kk p l e s m args below meth c H locs la C hA hS hz h1 hl
  rw [List.map_cons, zv_str] at k
  exact va_ldcS C.1 C.2.1 C.2.2.2.2.1 (C.2.2.2.2.2.2.2.2.2.1.2.2.1.1 i _ hi).2.2.2.2 hd k
theorem z_strv {idx : Nat} (hi : i < 27) (hlk : Cond.fieldLink M.1 idx "java/lang/String" "value" "[B" ∈ zTb) (hd : decode M.2.2.1 pc = .ok (.getfield idx, 3)) (kk : zg g d M T0 (pc + 3) ls (.ref (20001 + i) :: st) T S v T' S') : zg g d M T0 pc ls (.ref (10002 + i) :: st) T S v T' S' := by
  intro p l e s m args below meth c H locs la C hA hS hz h1 hl
  have k := kk p l e s m args below meth c H locs la C hA hS hz h1 hl
  rw [List.map_cons, zv_byt] at k
  show W p l e _ s m args below meth c H locs _ _ _ (F0 m pc la (zv g (.ref (10002 + i)) :: st.map (zv g)))
  rw [zv_str]
  exact vk_getf C.1 C.2.1 (C.2.2.2.2.2.2.2.2.2.1.2.2.1.1 i _ (zsE_at hi)).2.2.1 hS C.2.2.2.2.1 (C.2.2.2.2.2.1 _ hlk) (fun _ h => h) hd k
theorem z_strc {idx : Nat} (hi : i < 27) (hlk : Cond.fieldLink M.1 idx "java/lang/String" "coder" "B" ∈ zTb) (hd : decode M.2.2.1 pc = .ok (.getfield idx, 3)) (kk : zg g d M T0 (pc + 3) ls (.int 0 :: st) T S v T' S') : zg g d M T0 pc ls (.ref (10002 + i) :: st) T S v T' S' := by
  intro p l e s m args below meth c H locs la C hA hS hz h1 hl
  have k := kk p l e s m args below meth c H locs la C hA hS hz h1 hl
  show W p l e _ s m args below meth c H locs _ _ _ (F0 m pc la (zv g (.ref (10002 + i)) :: st.map (zv g)))
  rw [zv_str]
  exact vk_getf C.1 C.2.1 (C.2.2.2.2.2.2.2.2.2.1.2.2.1.1 i _ (zsE_at hi)).2.1 hS C.2.2.2.2.1 (C.2.2.2.2.2.1 _ hlk) (fun _ h => h) hd k
theorem z_stra (hi : i < 27) (hd : decode M.2.2.1 pc = .ok (.arraylength, 1)) (kk : zg g d M T0 (pc + 1) ls (.int (zsL i) :: st) T S v T' S') : zg g d M T0 pc ls (.ref (20001 + i) :: st) T S v T' S' := by
  intro p l e s m args below meth c H locs la C hA hS hz h1 hl
  have k := kk p l e s m args below meth c H locs la C hA hS hz h1 hl
  show W p l e _ s m args below meth c H locs _ _ _ (F0 m pc la (zv g (.ref (20001 + i)) :: st.map (zv g)))
  rw [zv_byt]
  exact va_tlen C.1 C.2.1 (C.2.2.2.2.2.2.2.2.2.1.2.2.1.1 i _ (zsE_at hi)).2.2.2.1 hS rfl hd k
theorem z_strb {j : Int32} (hi : i < 27) (hj : vp_in j (zsN i)) (hd : decode M.2.2.1 pc = .ok (.baload, 1)) (kk : zg g d M T0 (pc + 1) ls (.int ((zsE i).2.2.2.getD j.toNatClampNeg 0) :: st) T S v T' S') : zg g d M T0 pc ls (.int j :: .ref (20001 + i) :: st) T S v T' S' := by
  intro p l e s m args below meth c H locs la C hA hS hz h1 hl
  have k := kk p l e s m args below meth c H locs la C hA hS hz h1 hl
  show W p l e _ s m args below meth c H locs _ _ _ (F0 m pc la (.int j :: zv g (.ref (20001 + i)) :: st.map (zv g)))
  rw [zv_byt]
  exact va_tb C.1 C.2.1 (C.2.2.2.2.2.2.2.2.2.1.2.2.1.1 i _ (zsE_at hi)).2.2.2.1 hS hj rfl hd k
theorem z_compact {idx : Nat} (hlk : Cond.fieldLink M.1 idx "java/lang/String" "COMPACT_STRINGS" "Z" ∈ zTb) (hd : decode M.2.2.1 pc = .ok (.getstatic idx, 3)) (kk : zg g d M T0 (pc + 3) ls (.int 1 :: st) T S v T' S') : zg g d M T0 pc ls st T S v T' S' := by
  intro p l e s m args below meth c H locs la C hA hS hz h1 hl
  exact va_gets C.1 C.2.1 C.2.2.2.2.2.2.2.2.2.1.2.2.1.2.1 hS C.2.2.2.2.1 (C.2.2.2.2.2.1 _ hlk) (fun _ h => h) hd (kk p l e s m args below meth c H locs la C hA hS hz h1 hl)
theorem z_format {idx : Nat} (hlk : Cond.fieldLink M.1 idx "jdk/internal/util/Preconditions" "SIOOBE_FORMATTER" "Ljava/util/function/BiFunction;" ∈ zTb) (hd : decode M.2.2.1 pc = .ok (.getstatic idx, 3)) (kk : ∀ k, zg g d M T0 (pc + 3) ls (.ref k :: st) T S v T' S') : zg g d M T0 pc ls st T S v T' S' := by
  intro p l e s m args below meth c H locs la C hA hS hz h1 hl
  obtain ⟨k, hk⟩ := C.2.2.2.2.2.2.2.2.2.1.2.2.1.2.2
  exact va_gets C.1 C.2.1 hk hS C.2.2.2.2.1 (C.2.2.2.2.2.1 _ hlk) (fun _ h => h) hd (kk k p l e s m args below meth c H locs la C hA hS hz h1 hl)
theorem z_i2c {x r : Int32} (hd : decode M.2.2.1 pc = .ok (.i2c, 1)) (hr : (x.toUInt32 % 65536).toInt32 = r) (k : zg g d M T0 (pc + 1) ls (.int r :: st) T S v T' S') : zg g d M T0 pc ls (.int x :: st) T S v T' S' :=
  fun p l e s m args below meth c H locs la C hA hS hz h1 hl => lv_i2c C.1 C.2.1 hd hr (k p l e s m args below meth c H locs la C hA hS hz h1 hl)
theorem z_nret {x : Int32} {ty : FieldType} (hr : M.2.2.2.2 = some ty) (hn : narrow ty (.int x) = .int x) (hd : decode M.2.2.1 pc = .ok (.ireturn, 1)) : zg g d M T0 pc ls [.int x] T S (some (.int x)) T S :=
  fun p l e s m args below meth c H locs la C hA hS hz h1 hl => W.zret (v := x) C.1 C.2.1 (C.2.2.1.trans hr) hn (fun t ht hW => ⟨rfl, by rw [ht]; exact hA, hS.F ht⟩) hS.2.2 hd C.2.2.2.2.2.2.1
/-- a call on a String constant -/
theorem z_callW {idx n d2 : Nat} {M2 : zM} {As rest : List Value} {r : Option Value} (hcl : M2.2.1.cls = "java/lang/String") (hq : zKC M.1 idx M2 n) (hi : Cond.instanceMethod M2.2.1 ∈ zTb) (hs : Cond.selects M2.2.1.cls M2.2.1 M2.2.1 ∈ zTb) (hi27 : i < 27) (hM : zGM d2 M2 (.ref (10002 + i) :: As) T S r T S) (hst : st = As.reverse ++ .ref (10002 + i) :: rest) (hn : As.length = n) (hrest : (rest.map fun v => v.category).sum ≤ 8) (hd2 : d2 + 1 ≤ d) (hT' : T.1 ≤ T'.1 ∧ T.2.1 ≤ T'.2.1)
    (hd : decode M.2.2.1 pc = .ok (.invokevirtual idx, 3)) (kk : zg g d M T0 (pc + 3) ls (r.toList ++ rest) T S v T' S') : zg g d M T0 pc ls st T S v T' S' := by
  intro p l e s m args below meth c H locs la C hA hS hz h1 hl
  subst hst
  have hts := C.2.2.2.2.2.1
  have hrecv : ∃ cellB : Cell, H[g.2.2.2.1 (i + 1)]? = some cellB ∧ cellB.vm.isStatics = false ∧ s.vm.findClass M2.2.1.cls = some cellB.cls := by
    obtain ⟨cell, a1, a2, a3, a4⟩ := ((C.2.2.2.2.2.2.2.2.2.1.2.2.1.1 i _ (zsE_at hi27)).1).kept hS.2.1
    exact ⟨cell, a1, a2, by rw [hcl]; exact a3⟩
  have hrun := va_runV (meth := meth) (p := p) (l := l) (e := e) (R := zR d T0 T') (below := below) (H := H) (locs := locs) (cells := T.1 - T0.1) (slots := T.2.1 - T0.2.1) (nL := M.2.2.2.1) (As := As.map (zv g)) (rest := rest.map (zv g)) (g := F0 m pc la ((As.reverse ++ .ref (10002 + i) :: rest).map (zv g))) (b := g.2.2.2.1 (i + 1)) (C := M2.2.1.cls) ⟨C.1, C.2.1, C.2.2.2.1, C.2.2.2.2.1, hts⟩ (hM g l) ⟨zKC_go (T0 := T0) (T' := T') (T := T) hq C rfl hd2 T, hts _ hi, hts _ hs⟩ ⟨zPc_blind g _ T S, hrecv, zPc_go C hA hS (by rw [List.map_cons, zv_str])⟩ rfl (by rw [List.length_map]; exact hn) hl.1 (by show (As.reverse ++ .ref (10002 + i) :: rest).map (zv g) = _; rw [List.map_append, List.map_cons, List.map_reverse, zv_str]) (lv_room (by rw [zcats]; exact hrest)) hd ⟨by show _ ≤ T'.1 - T0.1; omega, by show _ ≤ T'.2.1 - T0.2.1; omega⟩
  exact z_ran C hS hz h1 hl ⟨Nat.le_refl _, Nat.le_refl _⟩ hrun kk
end Z11
