/-! THE MACHINE FROM ABOVE: every cell that the law's objects live in has a number (its address less the base); what it holds is a function of the number. A method's run says: from this state with these arguments it comes to that state with that answer. -/
abbrev zM : Type := String × MethodName × ByteArray × Nat × Option FieldType
/-- cells, slots used so far; kind, length, references of each cell -/
abbrev zT : Type := Nat × Nat × (Nat → Nat) × (Nat → Nat) × (Nat → Nat → Nat)
/-- ints and longs of each cell -/
abbrev zS : Type := (Nat → Nat → Int32) × (Nat → Nat → Int64)
/-- classes and slots, array classes, base, addresses of what is no cell of ours, byte arrays of String constants, the script -/
abbrev zG : Type := va_G × (Nat → ClassId) × Nat × (Nat → Nat) × (Nat → Nat) × Nat × (Nat → Int32)
def zad (g : zG) (k : Nat) : Nat := if k < 10000 then g.2.2.1 + k else g.2.2.2.1 (k - 10001)
def zro (g : zG) (k : Nat) : Option Nat := if k = 10000 then none else some (zad g k)
def zv (g : zG) : Value → Value
  | .ref k => va_rf (zro g k)
  | v => v
theorem zro_lt {g : zG} {k : Nat} (h : k < 10000) : zro g k = some (g.2.2.1 + k) := by
  unfold zro zad
  rw [if_neg (by omega), if_pos h]
theorem zv_lt {g : zG} {k : Nat} (h : k < 10000) : zv g (.ref k) = .ref (g.2.2.1 + k) := by
  show va_rf (zro g k) = _
  rw [zro_lt h]
  rfl
theorem zv_gt {g : zG} {k : Nat} : zv g (.ref (10001 + k)) = .ref (g.2.2.2.1 k) := by
  show va_rf (zro g (10001 + k)) = _
  unfold zro zad
  rw [if_neg (by omega), if_neg (by omega)]
  show Value.ref _ = _
  rw [Nat.add_sub_cancel_left]
theorem zv_cat (g : zG) (v : Value) : (zv g v).category = v.category := by
  cases v with
  | ref k =>
    show (va_rf (zro g k)).category = _
    unfold zro
    split <;> rfl
  | _ => rfl
theorem zv_ref (g : zG) (k : Nat) : zv g (.ref k) = .null ∨ ∃ a, zv g (.ref k) = .ref a := by
  show va_rf (zro g k) = .null ∨ ∃ a, va_rf (zro g k) = .ref a
  unfold zro
  split
  · exact Or.inl rfl
  · exact Or.inr ⟨_, rfl⟩
/-- the kinds of a class's fields: 0 an int, 1 a long, 2 a reference -/
def zft : Nat → List Nat
  | 0 => [0, 0, 0, 0, 0, 0, 2, 2, 2, 2, 2, 2, 2, 2, 2]
  | 1 => [2, 2, 2, 0]
  | 2 => [2, 0, 0]
  | 3 => [1]
  | 4 => [2, 2, 2, 0, 0, 0, 0, 0, 0, 2, 2, 2, 2, 2, 2, 0, 0]
  | 5 => [2, 2, 0, 0, 0, 0, 0, 2, 2, 2, 2, 2, 2, 2, 2]
  | 6 => [2, 0, 0, 0, 0, 0, 0, 0, 0, 2]
  | 7 => [2, 2, 2, 0]
  | 8 => [2, 2, 0, 0, 2]
  | 9 => [2, 2]
  | 10 => [2, 2, 2, 0]
  | 11 => [2, 0, 2, 2, 2, 2, 2, 0, 2, 2, 2, 2, 2, 2, 2, 2]
  | 12 => [0, 0, 0, 0, 0, 0, 0, 0, 0, 0, 0, 2, 2, 2, 2, 2, 2, 2, 2, 2, 2, 2, 2, 2, 2, 2, 2, 2, 2, 2, 2, 2, 2, 2, 2, 2, 0, 2, 2, 2, 2, 2, 2, 2, 2, 2, 2, 0, 0, 0, 0, 0, 1, 2, 0, 0, 0, 0, 0, 0, 2, 2, 2, 2, 2, 0, 0, 2]
  | _ => []
def zfv (g : zG) (T : zT) (S : zS) (k j : Nat) : Nat → Value
  | 0 => .int (S.1 k j)
  | 1 => .long (S.2 k j)
  | _ => va_rf (zro g (T.2.2.2.2 k j))
def zfs (g : zG) (T : zT) (S : zS) (k : Nat) (l : List Nat) : List Value := (List.range l.length).map (fun j => zfv g T S k j (l.getD j 2))
def zce (g : zG) (T : zT) (S : zS) (k : Nat) : va_E :=
  if T.2.2.1 k < 20 then .inr (T.2.2.1 k, zfs g T S k (zft (T.2.2.1 k)))
  else if T.2.2.1 k = 21 then .inl (g.2.1 1, (T.2.2.2.1 k, .inr (.inl (S.2 k))))
  else if T.2.2.1 k < 24 then .inl (g.2.1 (T.2.2.1 k - 20), (T.2.2.2.1 k, .inl (S.1 k)))
  else .inl (g.2.1 (T.2.2.1 k - 20), (T.2.2.2.1 k, .inr (.inr (.inr (.inr (fun j => zro g (T.2.2.2.2 k j)))))))
def zAt (g : zG) (T : zT) (S : zS) (H : Heap) : Prop := H.size = g.2.2.1 + T.1 ∧ T.1 ≤ 10000 ∧ ∀ k, k < T.1 → va_at g.1 vwCl (g.2.2.1 + k, zce g T S k) H
/-- the array classes -/
def zty (g : zG) : List (ClassId × FieldType) := [(g.2.1 0, .int), (g.2.1 1, .long), (g.2.1 2, .boolean), (g.2.1 3, .byte), (g.2.1 4, .object RX8), (g.2.1 5, .object RX0), (g.2.1 6, .object RX7)]
def zA (g : zG) : Nat → Prop := fun q => g.2.2.1 ≤ q
/-- the String constants: class, pool's entry, text, bytes -/
def zSt : List (String × Nat × String × List Int32) := [
  ("OutOfPawn$Tokens", 47, "thing set earns if needs luck cousin till coin weeks lost lends sells worth like keep or and not week home in owed runs left adds ", [116, 104, 105, 110, 103, 32, 115, 101, 116, 32, 101, 97, 114, 110, 115, 32, 105, 102, 32, 110, 101, 101, 100, 115, 32, 108, 117, 99, 107, 32, 99, 111, 117, 115, 105, 110, 32, 116, 105, 108, 108, 32, 99, 111, 105, 110, 32, 119, 101, 101, 107, 115, 32, 108, 111, 115, 116, 32, 108, 101, 110, 100, 115, 32, 115, 101, 108, 108, 115, 32, 119, 111, 114, 116, 104, 32, 108, 105, 107, 101, 32, 107, 101, 101, 112, 32, 111, 114, 32, 97, 110, 100, 32, 110, 111, 116, 32, 119, 101, 101, 107, 32, 104, 111, 109, 101, 32, 105, 110, 32, 111, 119, 101, 100, 32, 114, 117, 110, 115, 32, 108, 101, 102, 116, 32, 97, 100, 100, 115, 32]),
  ("OutOfPawnModel", 334, "like", [108, 105, 107, 101]),
  ("OutOfPawnModel", 336, "keep", [107, 101, 101, 112]),
  ("OutOfPawnModel", 166, "owed", [111, 119, 101, 100]),
  ("OutOfPawnModel", 168, "runs", [114, 117, 110, 115]),
  ("OutOfPawnModel", 169, "left", [108, 101, 102, 116]),
  ("OutOfPawnModel", 171, "adds", [97, 100, 100, 115]),
  ("OutOfPawnModel", 173, "worth", [119, 111, 114, 116, 104]),
  ("OutOfPawnModel", 160, "week", [119, 101, 101, 107]),
  ("OutOfPawnModel", 174, "coin", [99, 111, 105, 110]),
  ("OutOfPawnModel", 162, "home", [104, 111, 109, 101]),
  ("OutOfPawnModel", 164, "in", [105, 110]),
  ("OutOfPawnModel", 291, "if", [105, 102]),
  ("OutOfPawnModel", 269, "not", [110, 111, 116]),
  ("OutOfPawnModel", 283, "and", [97, 110, 100]),
  ("OutOfPawnModel", 285, "or", [111, 114]),
  ("OutOfPawnModel", 175, "thing", [116, 104, 105, 110, 103]),
  ("OutOfPawnModel", 177, "set", [115, 101, 116]),
  ("OutOfPawnModel", 179, "needs", [110, 101, 101, 100, 115]),
  ("OutOfPawnModel", 181, "luck", [108, 117, 99, 107]),
  ("OutOfPawnModel", 182, "cousin", [99, 111, 117, 115, 105, 110]),
  ("OutOfPawnModel", 183, "weeks", [119, 101, 101, 107, 115]),
  ("OutOfPawnModel", 184, "lost", [108, 111, 115, 116]),
  ("OutOfPawnModel", 185, "lends", [108, 101, 110, 100, 115]),
  ("OutOfPawnModel", 186, "sells", [115, 101, 108, 108, 115]),
  ("OutOfPawnModel", 312, "earns", [101, 97, 114, 110, 115]),
  ("OutOfPawnModel", 317, "till", [116, 105, 108, 108])]
def zXs (g : zG) (U : State) (H : Heap) (i : Nat) (q : String × Nat × String × List Int32) : Prop :=
  va_O "java/lang/String" (g.2.2.2.1 (i + 1)) (zA g) U H ∧ va_OF "java/lang/String" "coder" "B" (.int 0) (g.2.2.2.1 (i + 1)) (zA g) U H ∧ va_OF "java/lang/String" "value" "[B" (.ref (g.2.2.2.1 (i + 10000))) (g.2.2.2.1 (i + 1)) (zA g) U H ∧ va_T .byte (g.2.2.2.1 (i + 10000)) q.2.2.2.length (fun j => .int (q.2.2.2.getD j 0)) (zA g) U H ∧ vk_R q.1 q.2.1 q.2.2.1 (g.2.2.2.1 (i + 1)) U
/-- what stands beside our cells: the script, the String constants, the arrays' classes -/
def zX (g : zG) (U : State) (H : Heap) : Prop :=
  va_X (g.2.2.2.1 0) g.2.2.2.2.2.1 g.2.2.2.2.2.2 U H ∧ g.2.2.2.1 0 < g.2.2.1 ∧ ((∀ (i : Nat) (q : String × Nat × String × List Int32), zSt[i]? = some q → zXs g U H i q) ∧ va_Z "java/lang/String" "COMPACT_STRINGS" "Z" (.int 1) (zA g) U H ∧ ∃ k : Nat, va_Z "jdk/internal/util/Preconditions" "SIOOBE_FORMATTER" "Ljava/util/function/BiFunction;" (zv g (.ref k)) (zA g) U H) ∧ (va_AO RX8 U ∧ va_AO RX0 U ∧ va_AO RX7 U)
theorem zX.same {g : zG} {u U : State} {H : Heap} (hv : U.vm = u.vm) (h : zX g u H) : zX g U H := by
  obtain ⟨h1, h2, ⟨h3, h7, k8, h8⟩, h4, h5, h6⟩ := h
  have ha : u.vm.Alike U.vm := by rw [hv]; exact Vm.Alike.refl _
  exact ⟨h1.moved ha, h2, ⟨fun i q hq => ⟨va_O.moved ha (h3 i q hq).1, va_OF.moved ha (h3 i q hq).2.1, va_OF.moved ha (h3 i q hq).2.2.1, va_T.moved ha (h3 i q hq).2.2.2.1, vk_R.same hv (h3 i q hq).2.2.2.2⟩, h7.moved ha, k8, h8.moved ha⟩, h4.moved ha, h5.moved ha, h6.moved ha⟩
theorem zX.warm {g : zG} {s U : State} {H : Heap} (hW : s.WarmedH U.vm) (h : zX g s H) : zX g U H := by
  obtain ⟨h1, h2, ⟨h3, h7, k8, h8⟩, h4, h5, h6⟩ := h
  have ha : s.vm.Alike U.vm := hW.alike
  exact ⟨h1.moved ha, h2, ⟨fun i q hq => ⟨va_O.moved ha (h3 i q hq).1, va_OF.moved ha (h3 i q hq).2.1, va_OF.moved ha (h3 i q hq).2.2.1, va_T.moved ha (h3 i q hq).2.2.2.1, vk_R.warm hW (h3 i q hq).2.2.2.2⟩, h7.moved ha, k8, h8.moved ha⟩, h4.moved ha, h5.moved ha, h6.moved ha⟩
theorem zX.kept {g : zG} {U : State} {H H1 : Heap} (h : zX g U H) (hb : g.2.2.1 ≤ H.size) (hq : ∀ q : Nat, q < H.size → ¬ zA g q → H1[q]? = H[q]?) : zX g U H1 := by
  obtain ⟨h1, h2, ⟨h3, h7, k8, h8⟩, h4⟩ := h
  exact ⟨h1.kept (hq _ (by omega) (by show ¬ g.2.2.1 ≤ _; omega)), h2, ⟨fun i q hi => ⟨(h3 i q hi).1.kept hq, (h3 i q hi).2.1.kept hq, (h3 i q hi).2.2.1.kept hq, (h3 i q hi).2.2.2.1.kept hq, (h3 i q hi).2.2.2.2⟩, h7.kept hq, k8, h8.kept hq⟩, h4⟩
/-- the words that every method may use -/
def zTb : List Cond := lw_tbl.filter goodWord
def zws (M : zM) : List Cond := .code M.2.1 M.2.2.1 M.2.2.2.1 M.2.2.2.2 :: zTb
theorem zTb_of {w : Cond} (h : w ∈ lw_tbl) (hg : goodWord w = true) : w ∈ zTb := List.mem_filter.mpr ⟨h, hg⟩
theorem zTb_good {w : Cond} (h : w ∈ zTb) : (w.onTables && w.keeps) = true ∨ ∃ ty, w = .arrayClass ty := good_of_word (List.mem_filter.mp h).2
theorem zTb_sub {ws : List Cond} (h : ∀ w ∈ ws, w ∈ zTb) (M : zM) : GoodIn (zws M) ws := fun w hw => ⟨List.mem_cons_of_mem _ (h w hw), zTb_good (h w hw)⟩
def zR (d : Nat) (T T' : zT) : Room := { frames := d, cells := T'.1 - T.1, slots := T'.2.1 - T.2.1, locals := 64 * d }
def zPc (g : zG) (args : List Value) (T : zT) (S : zS) : Array Value → State → Prop := fun a U => a = (args.map (zv g)).toArray ∧ zAt g T S U.heap ∧ va_K g.1 vwCl (zty g) U ∧ zX g U U.heap ∧ g.2.2.1 ≤ U.heap.size
def zQc (g : zG) (v : Option Value) (T : zT) (S : zS) : Array Value → State → Outcome → State → Prop := fun _ st o t => o = .returned (v.map (zv g)) ∧ zAt g T S t.heap ∧ va_F (zA g) st t
/-- a method, from these arguments and this state: the answer, the state behind it; d: frames that it may stack -/
def zGM (d : Nat) (M : zM) (av : List Value) (T : zT) (S : zS) (v : Option Value) (T' : zT) (S' : zS) : Prop :=
  ∀ (g : zG) (l : Launch), Met l M.2.1 (zws M) (zR d T T') (zPc g av T S) (zQc g v T' S') (T'.1 - T.1) (T'.2.1 - T.2.1) (zA g)
def zCx (g : zG) (M : zM) (p : Program) (s : State) (m : MethodId) (args : Array Value) (meth : Method) (c : Code) : Prop :=
  p.tables.exec = Jvm.exec ∧ c.code = M.2.2.1 ∧ meth.sig.returnType = M.2.2.2.2 ∧ c.maxLocals = M.2.2.2.1 ∧ s.vm.findClass M.1 = some m.cls ∧ (∀ w ∈ zTb, w.before args s = true) ∧ meth.locks = false ∧ meth.name = M.2.1.name ∧ va_K g.1 vwCl (zty g) s ∧ zX g s s.heap ∧ g.2.2.1 ≤ s.heap.size
/-- the locals that are known -/
def zas (g : zG) : Nat → List (Option Value) → List (Nat × Value)
  | _, [] => []
  | i, none :: l => zas g (i + 1) l
  | i, some v :: l => (i, zv g v) :: zas g (i + 1) l
/-- from this place of a method, with these locals, this stack and this state: the answer, the state behind it -/
def zg (g : zG) (d : Nat) (M : zM) (T0 : zT) (pc : Nat) (ls : List (Option Value)) (st : List Value) (T : zT) (S : zS) (v : Option Value) (T' : zT) (S' : zS) : Prop :=
  ∀ (p : Program) (l : Launch) (e : Env) (s : State) (m : MethodId) (args : Array Value) (below : List Frame) (meth : Method) (c : Code) (H : Heap) (locs : List Loc) (la : Array Slot), zCx g M p s m args meth c → zAt g T S H → va_S (zA g) s.heap H locs → s.heap.size = g.2.2.1 + T0.1 → T0.1 ≤ T.1 ∧ T0.2.1 ≤ T.2.1 → lv_has la M.2.2.2.1 (zas g 0 ls) →
    W p l e (zR d T0 T') s m args below meth c H locs (T.1 - T0.1) (T.2.1 - T0.2.1) (MQ below (zQc g v T' S') args s (T'.1 - T0.1) (T'.2.1 - T0.2.1) (zA g)) (F0 m pc la (st.map (zv g)))
