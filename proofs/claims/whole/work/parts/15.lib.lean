abbrev zr (T : zT) (k j : Nat) : Nat := T.2.2.2.2 k j
def zlet {α : Sort _} {β : Sort _} (e : α) (k : α → β) : β := k e
theorem zlet_elim {α : Type _} {β : Type _} {e : α} {k : α → Option β} {r : Option β} (h : zlet e k = r) : ∃ x, x = e ∧ k x = r := ⟨e, rfl, h⟩
def zgd {β : Type _} (c : Bool) (k : Option β) : Option β := if c = true then k else none
theorem zgd_elim {β : Type _} {c : Bool} {k : Option β} {b : β} (h : zgd c k = some b) : c = true ∧ k = some b := by
  unfold zgd at h
  by_cases hc : c = true
  · rw [if_pos hc] at h
    exact ⟨hc, h⟩
  · rw [if_neg hc] at h
    cases h
def zb1 {α : Type _} {β : Type _} (o : Option α) (k : α → Option β) : Option β := match o with
  | none => none
  | some a => k a
theorem zb1_elim {α : Type _} {β : Type _} {o : Option α} {k : α → Option β} {b : β} (h : zb1 o k = some b) : ∃ a, o = some a ∧ k a = some b := by
  cases o with
  | none => cases h
  | some a => exact ⟨a, rfl, h⟩
def zb {α : Type _} {β : Type _} (o : Option (α × zS)) (k : α → zS → Option β) : Option β := match o with
  | none => none
  | some a => k a.1 a.2
theorem zb_elim {α : Type _} {β : Type _} {o : Option (α × zS)} {k : α → zS → Option β} {b : β} (h : zb o k = some b) : ∃ a S, o = some (a, S) ∧ k a S = some b := by
  cases o with
  | none => cases h
  | some a => exact ⟨a.1, a.2, rfl, h⟩
def zsm {α : Type _} {β : Type _} {γ : Type _} (e : α ⊕ β) (f : α → γ) (k : β → γ) : γ := match e with
  | .inl a => f a
  | .inr b => k b
theorem zsm_l {α : Type _} {β : Type _} {γ : Type _} {a : α} {f : α → γ} {k : β → γ} {r : γ} (h : zsm (.inl a) f k = r) : f a = r := h
theorem zsm_r {α : Type _} {β : Type _} {γ : Type _} {b : β} {f : α → γ} {k : β → γ} {r : γ} (h : zsm (.inr b) f k = r) : k b = r := h
def lpn {α : Type _} {β : Type _} (f : α → Option (α ⊕ β)) : Nat → α → Option β
  | 0, _ => none
  | n + 1, a => match f a with
    | none => none
    | some (.inl a') => lpn f n a'
    | some (.inr b) => some b
theorem lpn_succ {α : Type _} {β : Type _} {f : α → Option (α ⊕ β)} {n : Nat} {a : α} {e : β} (h : lpn f (n + 1) a = some e) : (∃ a', f a = some (.inl a') ∧ lpn f n a' = some e) ∨ f a = some (.inr e) := by
  have h' : (match f a with
    | none => none
    | some (.inl a') => lpn f n a'
    | some (.inr b) => some b) = some e := h
  cases hf : f a with
  | none => rw [hf] at h'; cases h'
  | some s =>
    rw [hf] at h'
    cases s with
    | inl a' => exact Or.inl ⟨a', rfl, h'⟩
    | inr b => exact Or.inr (by rw [show b = e from Option.some.inj h'])
noncomputable def lp {α : Type _} {β : Type _} (f : α → Option (α ⊕ β)) (a : α) : Option β := by
  classical exact if h : ∃ (b : β) (n : Nat), lpn f n a = some b then some (Classical.choose h) else none
theorem lp_some {α : Type _} {β : Type _} {f : α → Option (α ⊕ β)} {a : α} {e : β} (h : lp f a = some e) : ∃ n, lpn f n a = some e := by
  unfold lp at h
  split at h
  · rename_i h1
    have h2 := Classical.choose_spec h1
    rw [Option.some.inj h] at h2
    exact h2
  · cases h
def zin (i : Int32) (n : Nat) : Bool := decide (0 ≤ i.toInt ∧ i.toInt < n)
theorem zin_ok {i : Int32} {n : Nat} (h : zin i n = true) : vp_in i n := vp_in_iff.mpr (of_decide_eq_true h)
theorem zin_lt {i : Int32} {n : Nat} (h : zin i n = true) : i.toNatClampNeg < n := by
  have h1 : 0 ≤ i.toInt ∧ i.toInt < n := of_decide_eq_true h
  show i.toInt.toNat < n
  omega
def zne (y : Int32) : Bool := decide (¬ y = 0)
theorem zne_ok {y : Int32} (h : zne y = true) : ¬ y = 0 := of_decide_eq_true h
def zneL (y : Int64) : Bool := decide (¬ y = 0)
theorem zneL_ok {y : Int64} (h : zneL y = true) : ¬ y = 0 := of_decide_eq_true h
def zbl (x : Int32) : Bool := decide (x = 0 ∨ x = 1)
theorem zbl_ok {x : Int32} (h : zbl x = true) : x = 0 ∨ x = 1 := of_decide_eq_true h
def zcg (sp dp n : Int32) (n0 n1 : Nat) : Bool := decide (¬ sp < 0 ∧ ¬ dp < 0 ∧ ¬ n < 0 ∧ sp.toNatClampNeg + n.toNatClampNeg ≤ n0 ∧ dp.toNatClampNeg + n.toNatClampNeg ≤ n1)
theorem zcg_ok {sp dp n : Int32} {n0 n1 : Nat} (h : zcg sp dp n n0 n1 = true) : ¬ sp < 0 ∧ ¬ dp < 0 ∧ ¬ n < 0 ∧ sp.toNatClampNeg + n.toNatClampNeg ≤ n0 ∧ dp.toNatClampNeg + n.toNatClampNeg ≤ n1 := of_decide_eq_true h
theorem zg_T0 {g : zG} {d : Nat} {M : zM} {T0 T0' T T' : zT} {pc : Nat} {ls : List (Option Value)} {st : List Value} {S S' : zS} {v : Option Value} (h1 : T0.1 = T0'.1) (h2 : T0.2.1 = T0'.2.1) (k : zg g d M T0' pc ls st T S v T' S') : zg g d M T0 pc ls st T S v T' S' := by
  unfold zg zR at k ⊢
  rw [h1, h2]
  exact k
section Z10
variable {g : zG} {d : Nat} {M : zM} {T0 T T' : zT} {pc : Nat} {ls : List (Option Value)} {st : List Value} {S S' : zS} {v : Option Value} {idx ci j k : Nat} {t : FieldType}
theorem z_gx {V : Value} (hF : zFx M.1 idx ci j t) (hO : zO T k ci) (hV : ∀ g, zfv g T S k j (zkd t) = zv g V) (hd : decode M.2.2.1 pc = .ok (.getfield idx, 3)) (kk : zg g d M T0 (pc + 3) ls (V :: st) T S v T' S') : zg g d M T0 pc ls (.ref k :: st) T S v T' S' := by
  intro p l e s m args below meth c H locs la C hA hS hz h1 hl
  obtain ⟨Cn, X, N, ty, ⟨c1, c2, c3, c4, c5, c6, c7⟩, hj, hlk, ht⟩ := hF
  show W p l e _ s m args below meth c H locs _ _ _ (F0 m pc la (zv g (.ref k) :: st.map (zv g)))
  rw [zO_lt hA hO]
  refine va_get C.1 C.2.1 C.2.2.2.2.2.1 c2 C.2.2.2.2.1 C.2.2.2.2.2.2.2.2.1 (zP1 (zAt_obj hA hO c6)) 0 rfl c1 j hj (C.2.2.2.2.2.1 _ hlk) (fun _ h => h) (v := zv g V) ?_ hd (kk p l e s m args below meth c H locs la C hA hS hz h1 hl)
  rw [zfs_at (by rw [c5]; exact hj), c7 j hj, ht, hV]
theorem z_gI (hF : zFx M.1 idx ci j .int) (hO : zO T k ci) (hd : decode M.2.2.1 pc = .ok (.getfield idx, 3)) (kk : zg g d M T0 (pc + 3) ls (.int (S.1 k j) :: st) T S v T' S') : zg g d M T0 pc ls (.ref k :: st) T S v T' S' := z_gx hF hO (fun _ => rfl) hd kk
theorem z_gZ (hF : zFx M.1 idx ci j .boolean) (hO : zO T k ci) (hd : decode M.2.2.1 pc = .ok (.getfield idx, 3)) (kk : zg g d M T0 (pc + 3) ls (.int (S.1 k j) :: st) T S v T' S') : zg g d M T0 pc ls (.ref k :: st) T S v T' S' := z_gx hF hO (fun _ => rfl) hd kk
theorem z_gJ (hF : zFx M.1 idx ci j .long) (hO : zO T k ci) (hd : decode M.2.2.1 pc = .ok (.getfield idx, 3)) (kk : zg g d M T0 (pc + 3) ls (.long (S.2 k j) :: st) T S v T' S') : zg g d M T0 pc ls (.ref k :: st) T S v T' S' := z_gx hF hO (fun _ => rfl) hd kk
theorem z_gR {n : String} (hF : zFx M.1 idx ci j (.object n)) (hO : zO T k ci) (hd : decode M.2.2.1 pc = .ok (.getfield idx, 3)) (kk : zg g d M T0 (pc + 3) ls (.ref (zr T k j) :: st) T S v T' S') : zg g d M T0 pc ls (.ref k :: st) T S v T' S' := z_gx hF hO (fun _ => rfl) hd kk
theorem z_gA {n : FieldType} (hF : zFx M.1 idx ci j (.array n)) (hO : zO T k ci) (hd : decode M.2.2.1 pc = .ok (.getfield idx, 3)) (kk : zg g d M T0 (pc + 3) ls (.ref (zr T k j) :: st) T S v T' S') : zg g d M T0 pc ls (.ref k :: st) T S v T' S' := z_gx hF hO (fun _ => rfl) hd kk
end Z10
theorem zneI {x k : Int32} {a : Int} (h : ¬ x = k) (hk : k.toInt = a) : ¬ x.toInt = a := fun q => h (Int32.toInt_inj.mp (by rw [hk]; exact q))
def iX2 (T : zT) (k : Nat) : Prop := zO T k 2 ∧ zL T (zr T k 0) 20 512
def iX3 (T : zT) (k : Nat) : Prop := zO T k 3 ∧ True
def iX7 (T : zT) (k : Nat) : Prop := zO T k 7 ∧ zL T (zr T k 0) 20 60 ∧ zL T (zr T k 1) 20 60 ∧ zL T (zr T k 2) 20 60
def iX1 (T : zT) (k : Nat) : Prop := zO T k 1 ∧ zL T (zr T k 0) 20 24 ∧ zL T (zr T k 1) 20 24 ∧ zL T (zr T k 2) 20 24
def iX9 (T : zT) (k : Nat) : Prop := zO T k 9 ∧ zL T (zr T k 0) 21 26 ∧ zL T (zr T k 1) 21 64
def iX10 (T : zT) (k : Nat) : Prop := zO T k 10 ∧ zL T (zr T k 0) 20 401 ∧ zL T (zr T k 1) 20 401 ∧ zL T (zr T k 2) 20 401
def iX8 (T : zT) (k : Nat) : Prop := zO T k 8 ∧ zL T (zr T k 0) 20 12 ∧ zL T (zr T k 1) 20 12 ∧ iX2 T (zr T k 4)
def iX0 (T : zT) (k : Nat) : Prop := zO T k 0 ∧ zL T (zr T k 6) 20 8 ∧ zL T (zr T k 7) 20 8 ∧ zL T (zr T k 8) 20 8 ∧ zL T (zr T k 9) 20 8 ∧ zL T (zr T k 10) 20 8 ∧ zL T (zr T k 11) 20 8 ∧ iX1 T (zr T k 12) ∧ iX1 T (zr T k 13) ∧ iX2 T (zr T k 14)
def iX6 (T : zT) (k : Nat) : Prop := zO T k 6 ∧ iX10 T (zr T k 0) ∧ iX2 T (zr T k 9)
def iX6n (T : zT) (k : Nat) : Prop := zO T k 6 ∧ iX10 T (zr T k 0)
def iX4 (T : zT) (k : Nat) : Prop := zO T k 4 ∧ iX0 T (zr T k 0) ∧ iX9 T (zr T k 1) ∧ iX9 T (zr T k 2) ∧ zL T (zr T k 9) 20 60 ∧ zL T (zr T k 10) 20 60 ∧ zL T (zr T k 11) 20 8 ∧ zL T (zr T k 12) 20 8 ∧ zL T (zr T k 13) 20 8 ∧ zL T (zr T k 14) 20 8
def iX5 (T : zT) (k : Nat) : Prop := zO T k 5 ∧ iX0 T (zr T k 0) ∧ iX9 T (zr T k 1) ∧ zL T (zr T k 7) 20 8 ∧ zL T (zr T k 8) 20 15360 ∧ zL T (zr T k 9) 20 15360 ∧ zL T (zr T k 10) 20 15360 ∧ zL T (zr T k 11) 20 256 ∧ zL T (zr T k 12) 20 256 ∧ zL T (zr T k 13) 20 81 ∧ zL T (zr T k 14) 20 81
def iX11 (T : zT) (k : Nat) : Prop := zO T k 11 ∧ zL T (zr T k 0) 20 400 ∧ iX6n T (zr T k 2) ∧ iX0 T (zr T k 3) ∧ iX0 T (zr T k 4) ∧ iX7 T (zr T k 5) ∧ (zL T (zr T k 6) 24 6 ∧ ∀ i, i < 6 → iX8 T (zr T (zr T k 6) i)) ∧ (zL T (zr T k 8) 25 4 ∧ ∀ i, i < 4 → iX0 T (zr T (zr T k 8) i)) ∧ (zL T (zr T k 9) 26 4 ∧ ∀ i, i < 4 → iX7 T (zr T (zr T k 9) i)) ∧ zL T (zr T k 10) 22 4 ∧ iX9 T (zr T k 11) ∧ iX4 T (zr T k 12) ∧ iX5 T (zr T k 13) ∧ iX3 T (zr T k 14) ∧ zL T (zr T k 15) 20 8
def iX12 (T : zT) (k : Nat) : Prop := zO T k 12 ∧ zL T (zr T k 11) 23 400 ∧ zL T (zr T k 12) 20 2400 ∧ zL T (zr T k 13) 20 2400 ∧ zL T (zr T k 14) 20 8 ∧ zL T (zr T k 15) 20 192 ∧ zL T (zr T k 16) 20 192 ∧ zL T (zr T k 17) 20 192 ∧ zL T (zr T k 18) 20 192 ∧ zL T (zr T k 19) 20 192 ∧ zL T (zr T k 20) 20 192 ∧ zL T (zr T k 21) 20 402 ∧ zL T (zr T k 22) 20 16 ∧ zL T (zr T k 23) 20 16 ∧ zL T (zr T k 24) 20 16 ∧ zL T (zr T k 25) 20 16 ∧ zL T (zr T k 26) 20 16 ∧ zL T (zr T k 27) 20 16 ∧ zL T (zr T k 28) 20 16 ∧ zL T (zr T k 29) 20 2 ∧ zL T (zr T k 30) 20 2 ∧ zL T (zr T k 31) 20 2 ∧ zL T (zr T k 32) 20 2 ∧ zL T (zr T k 33) 20 2 ∧ zL T (zr T k 34) 21 9 ∧ zL T (zr T k 35) 21 300 ∧ zL T (zr T k 37) 20 60 ∧ zL T (zr T k 38) 20 60 ∧ zL T (zr T k 39) 20 60 ∧ zL T (zr T k 40) 20 8 ∧ zL T (zr T k 41) 20 8 ∧ zL T (zr T k 42) 20 8 ∧ zL T (zr T k 43) 20 8 ∧ zL T (zr T k 44) 20 60 ∧ zL T (zr T k 45) 20 60 ∧ zL T (zr T k 46) 22 8 ∧ zL T (zr T k 53) 20 15360 ∧ zL T (zr T k 60) 20 60 ∧ zL T (zr T k 61) 20 8 ∧ zL T (zr T k 62) 20 8 ∧ zL T (zr T k 63) 20 3920 ∧ zL T (zr T k 64) 22 4 ∧ zL T (zr T k 67) 20 1
theorem cI_m8 : Int32.ofInt (-8) = (-8) := by decide
theorem cI_m1 : Int32.ofInt (-1) = (-1) := by decide
theorem cI_0 : Int32.ofInt 0 = 0 := by decide
theorem cI_1 : Int32.ofInt 1 = 1 := by decide
theorem cI_2 : Int32.ofInt 2 = 2 := by decide
theorem cI_3 : Int32.ofInt 3 = 3 := by decide
theorem cI_4 : Int32.ofInt 4 = 4 := by decide
theorem cI_5 : Int32.ofInt 5 = 5 := by decide
theorem cB_m3 : (Int8.ofInt (-3)).toInt32 = (-3) := by decide
theorem cB_m2 : (Int8.ofInt (-2)).toInt32 = (-2) := by decide
theorem cB_6 : (Int8.ofInt 6).toInt32 = 6 := by decide
theorem cB_7 : (Int8.ofInt 7).toInt32 = 7 := by decide
theorem cB_8 : (Int8.ofInt 8).toInt32 = 8 := by decide
theorem cB_9 : (Int8.ofInt 9).toInt32 = 9 := by decide
theorem cB_10 : (Int8.ofInt 10).toInt32 = 10 := by decide
theorem cB_11 : (Int8.ofInt 11).toInt32 = 11 := by decide
theorem cB_12 : (Int8.ofInt 12).toInt32 = 12 := by decide
theorem cB_13 : (Int8.ofInt 13).toInt32 = 13 := by decide
theorem cB_14 : (Int8.ofInt 14).toInt32 = 14 := by decide
theorem cB_15 : (Int8.ofInt 15).toInt32 = 15 := by decide
theorem cB_16 : (Int8.ofInt 16).toInt32 = 16 := by decide
theorem cB_17 : (Int8.ofInt 17).toInt32 = 17 := by decide
theorem cB_18 : (Int8.ofInt 18).toInt32 = 18 := by decide
theorem cB_19 : (Int8.ofInt 19).toInt32 = 19 := by decide
theorem cB_20 : (Int8.ofInt 20).toInt32 = 20 := by decide
theorem cB_21 : (Int8.ofInt 21).toInt32 = 21 := by decide
theorem cB_22 : (Int8.ofInt 22).toInt32 = 22 := by decide
theorem cB_23 : (Int8.ofInt 23).toInt32 = 23 := by decide
theorem cB_24 : (Int8.ofInt 24).toInt32 = 24 := by decide
theorem cB_25 : (Int8.ofInt 25).toInt32 = 25 := by decide
theorem cB_26 : (Int8.ofInt 26).toInt32 = 26 := by decide
theorem cB_30 : (Int8.ofInt 30).toInt32 = 30 := by decide
theorem cB_31 : (Int8.ofInt 31).toInt32 = 31 := by decide
theorem cB_32 : (Int8.ofInt 32).toInt32 = 32 := by decide
theorem cB_33 : (Int8.ofInt 33).toInt32 = 33 := by decide
theorem cB_34 : (Int8.ofInt 34).toInt32 = 34 := by decide
theorem cB_35 : (Int8.ofInt 35).toInt32 = 35 := by decide
theorem cB_36 : (Int8.ofInt 36).toInt32 = 36 := by decide
theorem cB_37 : (Int8.ofInt 37).toInt32 = 37 := by decide
theorem cB_38 : (Int8.ofInt 38).toInt32 = 38 := by decide
theorem cB_39 : (Int8.ofInt 39).toInt32 = 39 := by decide
theorem cB_40 : (Int8.ofInt 40).toInt32 = 40 := by decide
theorem cB_41 : (Int8.ofInt 41).toInt32 = 41 := by decide
theorem cB_42 : (Int8.ofInt 42).toInt32 = 42 := by decide
theorem cB_43 : (Int8.ofInt 43).toInt32 = 43 := by decide
theorem cB_44 : (Int8.ofInt 44).toInt32 = 44 := by decide
theorem cB_45 : (Int8.ofInt 45).toInt32 = 45 := by decide
theorem cB_46 : (Int8.ofInt 46).toInt32 = 46 := by decide
theorem cB_47 : (Int8.ofInt 47).toInt32 = 47 := by decide
theorem cB_48 : (Int8.ofInt 48).toInt32 = 48 := by decide
theorem cB_57 : (Int8.ofInt 57).toInt32 = 57 := by decide
theorem cB_59 : (Int8.ofInt 59).toInt32 = 59 := by decide
theorem cB_60 : (Int8.ofInt 60).toInt32 = 60 := by decide
theorem cB_61 : (Int8.ofInt 61).toInt32 = 61 := by decide
theorem cB_62 : (Int8.ofInt 62).toInt32 = 62 := by decide
theorem cB_63 : (Int8.ofInt 63).toInt32 = 63 := by decide
theorem cB_64 : (Int8.ofInt 64).toInt32 = 64 := by decide
theorem cB_91 : (Int8.ofInt 91).toInt32 = 91 := by decide
theorem cB_93 : (Int8.ofInt 93).toInt32 = 93 := by decide
theorem cB_97 : (Int8.ofInt 97).toInt32 = 97 := by decide
theorem cB_100 : (Int8.ofInt 100).toInt32 = 100 := by decide
theorem cB_104 : (Int8.ofInt 104).toInt32 = 104 := by decide
theorem cB_122 : (Int8.ofInt 122).toInt32 = 122 := by decide
theorem cS_200 : (Int16.ofInt 200).toInt32 = 200 := by decide
theorem cS_255 : (Int16.ofInt 255).toInt32 = 255 := by decide
theorem cS_256 : (Int16.ofInt 256).toInt32 = 256 := by decide
theorem cS_300 : (Int16.ofInt 300).toInt32 = 300 := by decide
theorem cS_400 : (Int16.ofInt 400).toInt32 = 400 := by decide
theorem cS_512 : (Int16.ofInt 512).toInt32 = 512 := by decide
theorem cS_980 : (Int16.ofInt 980).toInt32 = 980 := by decide
theorem cS_999 : (Int16.ofInt 999).toInt32 = 999 := by decide
theorem cS_1000 : (Int16.ofInt 1000).toInt32 = 1000 := by decide
theorem cS_9999 : (Int16.ofInt 9999).toInt32 = 9999 := by decide
theorem zr_q {T : zT} {q j r k i : Nat} (h : k ≠ q) : zr (zQ T q j r) k i = zr T k i := if_neg (fun z => h z.1)
theorem zr_qj {T : zT} {q j r k i : Nat} (h : i ≠ j) : zr (zQ T q j r) k i = zr T k i := if_neg (fun z => h z.2)
theorem zr_qs {T : zT} {q j r : Nat} : zr (zQ T q j r) q j = r := if_pos ⟨rfl, rfl⟩
theorem zq_ne {T : zT} {q k c : Nat} (hR : zO T q 6) (h : zO T k c) (hc : c ≠ 6) : k ≠ q := fun e => hc (by rw [e] at h; exact h.2.symm.trans hR.2)
theorem iX2_q {T : zT} {q r k : Nat} (hR : zO T q 6) (h : iX2 T k) : iX2 (zQ T q 9 r) k := by
  have ne := zq_ne hR h.1 (by decide)
  exact ⟨h.1, (by rw [zr_q ne]; exact h.2)⟩
theorem iX3_q {T : zT} {q r k : Nat} (hR : zO T q 6) (h : iX3 T k) : iX3 (zQ T q 9 r) k := by
  have ne := zq_ne hR h.1 (by decide)
  exact ⟨h.1, trivial⟩
theorem iX7_q {T : zT} {q r k : Nat} (hR : zO T q 6) (h : iX7 T k) : iX7 (zQ T q 9 r) k := by
  have ne := zq_ne hR h.1 (by decide)
  exact ⟨h.1, (by rw [zr_q ne]; exact h.2.1), (by rw [zr_q ne]; exact h.2.2.1), (by rw [zr_q ne]; exact h.2.2.2)⟩
theorem iX1_q {T : zT} {q r k : Nat} (hR : zO T q 6) (h : iX1 T k) : iX1 (zQ T q 9 r) k := by
  have ne := zq_ne hR h.1 (by decide)
  exact ⟨h.1, (by rw [zr_q ne]; exact h.2.1), (by rw [zr_q ne]; exact h.2.2.1), (by rw [zr_q ne]; exact h.2.2.2)⟩
theorem iX9_q {T : zT} {q r k : Nat} (hR : zO T q 6) (h : iX9 T k) : iX9 (zQ T q 9 r) k := by
  have ne := zq_ne hR h.1 (by decide)
  exact ⟨h.1, (by rw [zr_q ne]; exact h.2.1), (by rw [zr_q ne]; exact h.2.2)⟩
theorem iX10_q {T : zT} {q r k : Nat} (hR : zO T q 6) (h : iX10 T k) : iX10 (zQ T q 9 r) k := by
  have ne := zq_ne hR h.1 (by decide)
  exact ⟨h.1, (by rw [zr_q ne]; exact h.2.1), (by rw [zr_q ne]; exact h.2.2.1), (by rw [zr_q ne]; exact h.2.2.2)⟩
theorem iX8_q {T : zT} {q r k : Nat} (hR : zO T q 6) (h : iX8 T k) : iX8 (zQ T q 9 r) k := by
  have ne := zq_ne hR h.1 (by decide)
  exact ⟨h.1, (by rw [zr_q ne]; exact h.2.1), (by rw [zr_q ne]; exact h.2.2.1), (by rw [zr_q ne]; exact iX2_q hR h.2.2.2)⟩
theorem iX0_q {T : zT} {q r k : Nat} (hR : zO T q 6) (h : iX0 T k) : iX0 (zQ T q 9 r) k := by
  have ne := zq_ne hR h.1 (by decide)
  exact ⟨h.1, (by rw [zr_q ne]; exact h.2.1), (by rw [zr_q ne]; exact h.2.2.1), (by rw [zr_q ne]; exact h.2.2.2.1), (by rw [zr_q ne]; exact h.2.2.2.2.1), (by rw [zr_q ne]; exact h.2.2.2.2.2.1), (by rw [zr_q ne]; exact h.2.2.2.2.2.2.1), (by rw [zr_q ne]; exact iX1_q hR h.2.2.2.2.2.2.2.1), (by rw [zr_q ne]; exact iX1_q hR h.2.2.2.2.2.2.2.2.1), (by rw [zr_q ne]; exact iX2_q hR h.2.2.2.2.2.2.2.2.2)⟩
theorem iX6_q {T : zT} {q r : Nat} (h : iX6n T q) (hr : iX2 T r) : iX6 (zQ T q 9 r) q := ⟨h.1, (by rw [zr_qj (by decide)]; exact iX10_q h.1 h.2), (by rw [zr_qs]; exact iX2_q h.1 hr)⟩
theorem iX6n_q {T : zT} {q r : Nat} (h : iX6n T q) : iX6n (zQ T q 9 r) q := ⟨h.1, (by rw [zr_qj (by decide)]; exact iX10_q h.1 h.2)⟩
theorem iX6_n {T : zT} {k : Nat} (h : iX6 T k) : iX6n T k := ⟨h.1, h.2.1⟩
