/-- the kind of a field by its type -/
def zkd : FieldType → Nat
  | .int => 0
  | .boolean => 0
  | .long => 1
  | _ => 2
/-- a class of the tables: number, name, fields, how many, types -/
def zC (ci : Nat) (C : String) (X : u_T) (N : Nat) (ty : Nat → FieldType) : Prop :=
  vwCl[ci]? = some (C, X, N) ∧ (∀ w ∈ u_ws C X N, w ∈ zTb) ∧ (∀ k, k < N → parseFieldDescriptor (X k).2.2.1 = some (ty k)) ∧ (∀ a, a < N → ∀ b, b < N → a ≠ b → (X a).2.1 ≠ (X b).2.1) ∧ (zft ci).length = N ∧ ci < 20 ∧ ∀ j, j < N → (zft ci).getD j 2 = zkd (ty j)
/-- a pool's entry is the field j of the class ci, of this type, final or not -/
def zF (own : String) (idx ci j : Nat) (t : FieldType) (fin : Bool) : Prop :=
  ∃ (C : String) (X : u_T) (N : Nat) (ty : Nat → FieldType), zC ci C X N ty ∧ j < N ∧ Cond.fieldLink own idx (X j).1 (X j).2.1 (X j).2.2.1 ∈ zTb ∧ ty j = t ∧ (X j).2.2.2 = fin ∧ (fin = true → (X j).1 = own)
/-- cell k is an object of the class ci; an array of this kind and length -/
def zO (T : zT) (k ci : Nat) : Prop := k < T.1 ∧ T.2.2.1 k = ci
def zL (T : zT) (k kd n : Nat) : Prop := k < T.1 ∧ T.2.2.1 k = kd ∧ T.2.2.2.1 k = n
/-- one place of one cell is written -/
def zI (S : zS) (k i : Nat) (x : Int32) : zS := (fun a b => if a = k ∧ b = i then x else S.1 a b, S.2)
def zJ (S : zS) (k i : Nat) (x : Int64) : zS := (S.1, fun a b => if a = k ∧ b = i then x else S.2 a b)
def zQ (T : zT) (k i r : Nat) : zT := (T.1, T.2.1, T.2.2.1, T.2.2.2.1, fun a b => if a = k ∧ b = i then r else T.2.2.2.2 a b)
theorem zI_other {S : zS} {k i a : Nat} {x : Int32} (h : a ≠ k) : (zI S k i x).1 a = S.1 a := by
  funext b
  exact if_neg (fun z => h z.1)
theorem zI_same {S : zS} {k i : Nat} {x : Int32} : (zI S k i x).1 k = upd (S.1 k) i x := by
  funext b
  show (if k = k ∧ b = i then x else S.1 k b) = if b = i then x else S.1 k b
  by_cases h : b = i
  · rw [if_pos h, if_pos ⟨rfl, h⟩]
  · rw [if_neg h, if_neg (fun z => h z.2)]
theorem zJ_other {S : zS} {k i a : Nat} {x : Int64} (h : a ≠ k) : (zJ S k i x).2 a = S.2 a := by
  funext b
  exact if_neg (fun z => h z.1)
theorem zQ_other {T : zT} {k i a r : Nat} (h : a ≠ k) : (zQ T k i r).2.2.2.2 a = T.2.2.2.2 a := by
  funext b
  exact if_neg (fun z => h z.1)
theorem zfv_congr {g : zG} {T T' : zT} {S S' : zS} {k : Nat} (h1 : S'.1 k = S.1 k) (h2 : S'.2 k = S.2 k) (h5 : T'.2.2.2.2 k = T.2.2.2.2 k) (j n : Nat) : zfv g T' S' k j n = zfv g T S k j n := by
  match n with
  | 0 => show Value.int (S'.1 k j) = .int (S.1 k j); rw [h1]
  | 1 => show Value.long (S'.2 k j) = .long (S.2 k j); rw [h2]
  | n + 2 => show va_rf (zro g (T'.2.2.2.2 k j)) = va_rf (zro g (T.2.2.2.2 k j)); rw [h5]
theorem zce_congr {g : zG} {T T' : zT} {S S' : zS} {k : Nat} (h1 : S'.1 k = S.1 k) (h2 : S'.2 k = S.2 k) (h3 : T'.2.2.1 k = T.2.2.1 k) (h4 : T'.2.2.2.1 k = T.2.2.2.1 k) (h5 : T'.2.2.2.2 k = T.2.2.2.2 k) : zce g T' S' k = zce g T S k := by
  have e : ∀ l, zfs g T' S' k l = zfs g T S k l := fun l => by
    unfold zfs
    congr 1
    funext j
    exact zfv_congr h1 h2 h5 _ _
  unfold zce
  rw [h1, h2, h3, h4, h5, e]
theorem zfs_at {g : zG} {T : zT} {S : zS} {k : Nat} {l : List Nat} {j : Nat} (h : j < l.length) : (zfs g T S k l)[j]? = some (zfv g T S k j (l.getD j 2)) := by
  unfold zfs
  rw [List.getElem?_map, List.getElem?_range h]
  rfl
theorem zfs_len {g : zG} {T : zT} {S : zS} {k : Nat} {l : List Nat} : (zfs g T S k l).length = l.length := by simp [zfs]
theorem zfs_set {g : zG} {T T' : zT} {S S' : zS} {k : Nat} {l : List Nat} {j : Nat} {V : Value} (hj : j < l.length) (h1 : zfv g T' S' k j (l.getD j 2) = V) (h2 : ∀ i, i ≠ j → ∀ n, zfv g T' S' k i n = zfv g T S k i n) : zfs g T' S' k l = (zfs g T S k l).set j V := by
  apply List.ext_getElem?
  intro i
  by_cases hi : i < l.length
  · by_cases e : i = j
    · subst e
      rw [zfs_at hi, List.getElem?_set_self (by rw [zfs_len]; exact hi), h1]
    · rw [zfs_at hi, List.getElem?_set_ne (Ne.symm e), zfs_at hi, h2 i e]
  · rw [List.getElem?_eq_none (by rw [zfs_len]; omega), List.getElem?_eq_none (by rw [List.length_set, zfs_len]; omega)]
theorem zAt_obj {g : zG} {T : zT} {S : zS} {H : Heap} {k ci : Nat} (hA : zAt g T S H) (hO : zO T k ci) (hc : ci < 20) : va_at g.1 vwCl (g.2.2.1 + k, .inr (ci, zfs g T S k (zft ci))) H := by
  have h := hA.2.2 k hO.1
  have e : zce g T S k = .inr (ci, zfs g T S k (zft ci)) := by
    unfold zce
    rw [hO.2, if_pos hc]
  rw [e] at h
  exact h
theorem zP1 {D : va_G} {cl : List vw_C} {q : Nat × va_E} {H : Heap} (h : va_at D cl q H) : va_P D cl [q] H := by
  intro k x hx
  match k, hx with
  | 0, hx => cases hx; exact h
  | k + 1, hx => simp at hx
theorem zO_lt {g : zG} {T : zT} {S : zS} {H : Heap} {k ci : Nat} (hA : zAt g T S H) (hO : zO T k ci) : zv g (.ref k) = .ref (g.2.2.1 + k) := zv_lt (by have := hA.2.1; have := hO.1; omega)
theorem zAt_upd {g : zG} {T T' : zT} {S S' : zS} {H H1 : Heap} {k : Nat} (hA : zAt g T S H) (hT : T'.1 = T.1) (z : H1.size = H.size) (oq : ∀ q : Nat, q ≠ g.2.2.1 + k → H1[q]? = H[q]?) (ho : ∀ j, j ≠ k → zce g T' S' j = zce g T S j) (hc : va_at g.1 vwCl (g.2.2.1 + k, zce g T' S' k) H1) : zAt g T' S' H1 := by
  refine ⟨by rw [z, hT]; exact hA.1, by rw [hT]; exact hA.2.1, fun j hj => ?_⟩
  by_cases e : j = k
  · subst e
    exact hc
  · rw [ho j e]
    rw [hT] at hj
    exact (hA.2.2 j hj).kept (oq _ (by show g.2.2.1 + j ≠ _; omega))
section Z6
variable {g : zG} {d : Nat} {M : zM} {T0 T T' : zT} {pc : Nat} {ls : List (Option Value)} {st : List Value} {S S' : zS} {v : Option Value} {idx ci j k : Nat} {t : FieldType} {fin : Bool}
theorem z_get {V : Value} (hF : zF M.1 idx ci j t fin) (hO : zO T k ci) (hV : ∀ g, zfv g T S k j (zkd t) = zv g V) (hd : decode M.2.2.1 pc = .ok (.getfield idx, 3)) (kk : zg g d M T0 (pc + 3) ls (V :: st) T S v T' S') : zg g d M T0 pc ls (.ref k :: st) T S v T' S' := by
  intro p l e s m args below meth c H locs la C hA hS hz h1 hl
  obtain ⟨Cn, X, N, ty, ⟨c1, c2, c3, c4, c5, c6, c7⟩, hj, hlk, ht, -, -⟩ := hF
  show W p l e _ s m args below meth c H locs _ _ _ (F0 m pc la (zv g (.ref k) :: st.map (zv g)))
  rw [zO_lt hA hO]
  refine va_get C.1 C.2.1 C.2.2.2.2.2.1 c2 C.2.2.2.2.1 C.2.2.2.2.2.2.2.2.1 (zP1 (zAt_obj hA hO c6)) 0 rfl c1 j hj (C.2.2.2.2.2.1 _ hlk) (fun _ h => h) (v := zv g V) ?_ hd (kk p l e s m args below meth c H locs la C hA hS hz h1 hl)
  rw [zfs_at (by rw [c5]; exact hj), c7 j hj, ht, hV]
theorem z_getI (hF : zF M.1 idx ci j .int fin) (hO : zO T k ci) (hd : decode M.2.2.1 pc = .ok (.getfield idx, 3)) (kk : zg g d M T0 (pc + 3) ls (.int (S.1 k j) :: st) T S v T' S') : zg g d M T0 pc ls (.ref k :: st) T S v T' S' := z_get hF hO (fun _ => rfl) hd kk
theorem z_getZ (hF : zF M.1 idx ci j .boolean fin) (hO : zO T k ci) (hd : decode M.2.2.1 pc = .ok (.getfield idx, 3)) (kk : zg g d M T0 (pc + 3) ls (.int (S.1 k j) :: st) T S v T' S') : zg g d M T0 pc ls (.ref k :: st) T S v T' S' := z_get hF hO (fun _ => rfl) hd kk
theorem z_getJ (hF : zF M.1 idx ci j .long fin) (hO : zO T k ci) (hd : decode M.2.2.1 pc = .ok (.getfield idx, 3)) (kk : zg g d M T0 (pc + 3) ls (.long (S.2 k j) :: st) T S v T' S') : zg g d M T0 pc ls (.ref k :: st) T S v T' S' := z_get hF hO (fun _ => rfl) hd kk
theorem z_getR {n : String} (hF : zF M.1 idx ci j (.object n) fin) (hO : zO T k ci) (hd : decode M.2.2.1 pc = .ok (.getfield idx, 3)) (kk : zg g d M T0 (pc + 3) ls (.ref (T.2.2.2.2 k j) :: st) T S v T' S') : zg g d M T0 pc ls (.ref k :: st) T S v T' S' := z_get hF hO (fun _ => rfl) hd kk
theorem z_getA {n : FieldType} (hF : zF M.1 idx ci j (.array n) fin) (hO : zO T k ci) (hd : decode M.2.2.1 pc = .ok (.getfield idx, 3)) (kk : zg g d M T0 (pc + 3) ls (.ref (T.2.2.2.2 k j) :: st) T S v T' S') : zg g d M T0 pc ls (.ref k :: st) T S v T' S' := z_get hF hO (fun _ => rfl) hd kk
/-- a field is written, final (in its class's constructor) or not -/
theorem z_put {T1 : zT} {S1 : zS} {V : Value} (hF : zF M.1 idx ci j t fin) (hin : fin = true → M.2.1.name = "<init>") (hO : zO T k ci) (hT : T1.1 = T.1) (hT2 : T1.2.1 = T.2.1) (hK : T1.2.2.1 k = T.2.2.1 k)
    (hn : ∀ g, narrow t (zv g V) = zv g V) (hfit : ∀ g, fits t (zv g V) = true) (hV : ∀ g, zfv g T1 S1 k j (zkd t) = zv g V) (hV2 : ∀ g, ∀ i, i ≠ j → ∀ n, zfv g T1 S1 k i n = zfv g T S k i n) (ho : ∀ g, ∀ a, a ≠ k → zce g T1 S1 a = zce g T S a)
    (hd : decode M.2.2.1 pc = .ok (.putfield idx, 3)) (kk : zg g d M T0 (pc + 3) ls st T1 S1 v T' S') : zg g d M T0 pc ls (V :: .ref k :: st) T S v T' S' := by
  intro p l e s m args below meth c H locs la C hA hS hz h1 hl
  obtain ⟨Cn, X, N, ty, ⟨c1, c2, c3, c4, c5, c6, c7⟩, hj, hlk, ht, hfin, hown⟩ := hF
  show W p l e _ s m args below meth c H locs _ _ _ (F0 m pc la (zv g V :: zv g (.ref k) :: st.map (zv g)))
  rw [zO_lt hA hO]
  have hKs : va_K g.1 vwCl (zty g) s := C.2.2.2.2.2.2.2.2.1
  have hts : ∀ w ∈ zTb, w.before args s = true := C.2.2.2.2.2.1
  have hap := va_apart (own := M.1) hts c2 ty c3 c4 hKs c1
  obtain ⟨r, r1, cell, q1, q2, q3, q4⟩ := zAt_obj hA hO c6
  have hr : r = (Cn, X, N) := Option.some.inj (r1.symm.trans c1)
  subst hr
  obtain ⟨hSl, hfc, kC, hkC, hkind⟩ := hKs.1 ci _ c1
  obtain ⟨cf, kf, fi, f, hi, hsl⟩ := hSl j hj
  have hlay := hts _ (c2 _ (u_in_lay hj))
  have hst := (u_facts hfc hkC (u_lays hts c2 hj) hi).1
  have hpd : parseFieldDescriptor (X j).2.2.1 = some t := by rw [c3 j hj, ht]
  have hlt : j < (zfs g T S k (zft ci)).length := by rw [zfs_len, c5]; exact hj
  have fin' : ∀ H' : Heap, H'[g.2.2.1 + k]? = some (cell.setSlot f.slot (zv g V)) → H'.size = H.size → (∀ q, q ≠ g.2.2.1 + k → H'[q]? = H[q]?) → W p l e (zR d T0 T') s m args below meth c H' (locs ++ [⟨g.2.2.1 + k, f.slot⟩]) (T.1 - T0.1) (T.2.1 - T0.2.1) (MQ below (zQc g v T' S') args s (T'.1 - T0.1) (T'.2.1 - T0.2.1) (zA g)) (F0 m (pc + 3) la (st.map (zv g))) := by
    intro H' e1 e2 e3
    rw [hsl] at e1
    have hcell : va_at g.1 vwCl (g.2.2.1 + k, zce g T1 S1 k) H' := by
      have ez : zce g T1 S1 k = .inr (ci, (zfs g T S k (zft ci)).set j (zv g V)) := by
        unfold zce
        rw [hK, hO.2, if_pos c6]
        congr 2
        exact zfs_set (by rw [c5]; exact hj) (by rw [c7 j hj, ht]; exact hV g) (hV2 g)
      rw [ez]
      exact ⟨_, c1, t_OB.to (V := updV (vp_V _) j (zv g V)) ⟨_, e1, q2, q3, t_set q4 hap hj (zv g V)⟩ (fun i _ => vp_updV_set hlt (zv g V) i)⟩
    have kz := kk p l e s m args below meth c H' (locs ++ [⟨g.2.2.1 + k, f.slot⟩]) la C (zAt_upd hA hT e2 e3 (ho g) hcell) (hS.put e2 e3 (by show g.2.2.1 ≤ g.2.2.1 + k; omega)) hz (by rw [hT, hT2]; exact h1) hl
    rw [hT, hT2] at kz
    exact kz
  cases hb : fin with
  | false =>
    unfold u_lay at hlay
    rw [if_neg (by rw [hfin, hb]; decide)] at hlay
    have h6 := u_store hfc hkC hkind hlay hi hpd (hn g) (hfit g)
    exact W.putK C.1 C.2.1 (f := f) ⟨C.2.2.2.2.1, hts _ hlk, ⟨_, _, _, hi⟩, hst⟩ (by rw [q2]; exact h6) q1 q3 (by rw [hsl]; exact k2_hasslot (q4 j hj)) rfl rfl hd fin'
  | true =>
    have hfin' := hfin.trans hb
    unfold u_lay at hlay
    rw [if_pos hfin'] at hlay
    have hcf : m.cls = cf := by
      obtain ⟨_, _, c', _, _, _, -, -, hf', -, -, -, hown2, -⟩ := Cond.laysFinal_spec hlay
      have e1 : c' = cf := by have := hi.symm.trans hf'; simp at this; exact this.1.symm
      rw [hown hb] at hown2
      rw [← e1]; exact Option.some.inj (C.2.2.2.2.1.symm.trans hown2)
    have h6 := u_fits hfc hkC hkind (Or.inr hlay) hi hpd (hn g) (hfit g)
    exact W.putFinK C.1 C.2.1 C.2.2.2.2.1 (hts _ hlk) hi hst hcf (by rw [C.2.2.2.2.2.2.2.1]; exact hin hb) (by rw [q2]; exact h6) q1 q3 (by rw [hsl]; exact k2_hasslot (q4 j hj)) rfl rfl hd fin'
theorem zI_V2 {x : Int32} (g : zG) : ∀ i, i ≠ j → ∀ n, zfv g T (zI S k j x) k i n = zfv g T S k i n := by
  intro i hi n
  match n with
  | 0 => show Value.int (if k = k ∧ i = j then x else S.1 k i) = _; rw [if_neg (fun z => hi z.2)]; rfl
  | 1 => rfl
  | n + 2 => rfl
theorem zJ_V2 {x : Int64} (g : zG) : ∀ i, i ≠ j → ∀ n, zfv g T (zJ S k j x) k i n = zfv g T S k i n := by
  intro i hi n
  match n with
  | 0 => rfl
  | 1 => show Value.long (if k = k ∧ i = j then x else S.2 k i) = _; rw [if_neg (fun z => hi z.2)]; rfl
  | n + 2 => rfl
theorem zQ_V2 {x : Nat} (g : zG) : ∀ i, i ≠ j → ∀ n, zfv g (zQ T k j x) S k i n = zfv g T S k i n := by
  intro i hi n
  match n with
  | 0 => exact Eq.trans (b := Value.int (S.1 k i)) rfl rfl
  | 1 => exact Eq.trans (b := Value.long (S.2 k i)) rfl rfl
  | n + 2 =>
    have e : (zQ T k j x).2.2.2.2 k i = T.2.2.2.2 k i := if_neg (fun z => hi z.2)
    show va_rf (zro g ((zQ T k j x).2.2.2.2 k i)) = va_rf (zro g (T.2.2.2.2 k i))
    rw [e]
theorem z_putI {x : Int32} (hF : zF M.1 idx ci j .int false) (hO : zO T k ci) (hd : decode M.2.2.1 pc = .ok (.putfield idx, 3)) (kk : zg g d M T0 (pc + 3) ls st T (zI S k j x) v T' S') : zg g d M T0 pc ls (.int x :: .ref k :: st) T S v T' S' :=
  z_put hF (fun h => by cases h) hO rfl rfl rfl (fun _ => rfl) (fun _ => rfl) (fun _ => by show Value.int (if k = k ∧ j = j then x else _) = _; rw [if_pos ⟨rfl, rfl⟩]; rfl) (fun g => zI_V2 g) (fun g a ha => zce_congr (zI_other ha) rfl rfl rfl rfl) hd kk
theorem z_putZ {x : Int32} (hF : zF M.1 idx ci j .boolean false) (hx : x = 0 ∨ x = 1) (hO : zO T k ci) (hd : decode M.2.2.1 pc = .ok (.putfield idx, 3)) (kk : zg g d M T0 (pc + 3) ls st T (zI S k j x) v T' S') : zg g d M T0 pc ls (.int x :: .ref k :: st) T S v T' S' :=
  z_put hF (fun h => by cases h) hO rfl rfl rfl (fun _ => by rcases hx with rfl | rfl <;> rfl) (fun _ => by rcases hx with rfl | rfl <;> rfl) (fun _ => by show Value.int (if k = k ∧ j = j then x else _) = _; rw [if_pos ⟨rfl, rfl⟩]; rfl) (fun g => zI_V2 g) (fun g a ha => zce_congr (zI_other ha) rfl rfl rfl rfl) hd kk
theorem z_putJ {x : Int64} (hF : zF M.1 idx ci j .long false) (hO : zO T k ci) (hd : decode M.2.2.1 pc = .ok (.putfield idx, 3)) (kk : zg g d M T0 (pc + 3) ls st T (zJ S k j x) v T' S') : zg g d M T0 pc ls (.long x :: .ref k :: st) T S v T' S' :=
  z_put hF (fun h => by cases h) hO rfl rfl rfl (fun _ => rfl) (fun _ => rfl) (fun _ => by show Value.long (if k = k ∧ j = j then x else _) = _; rw [if_pos ⟨rfl, rfl⟩]; rfl) (fun g => zJ_V2 g) (fun g a ha => zce_congr rfl (zJ_other ha) rfl rfl rfl) hd kk
theorem zref_nf {t : FieldType} (ht : (∃ n, t = .object n) ∨ ∃ n, t = .array n) (g : zG) (x : Nat) : narrow t (zv g (.ref x)) = zv g (.ref x) ∧ fits t (zv g (.ref x)) = true := by
  rcases zv_ref g x with e | ⟨a, e⟩ <;> rw [e] <;> rcases ht with ⟨n, rfl⟩ | ⟨n, rfl⟩ <;> exact ⟨rfl, rfl⟩
theorem zkd_ref {t : FieldType} (ht : (∃ n, t = .object n) ∨ ∃ n, t = .array n) : zkd t = 2 := by rcases ht with ⟨n, rfl⟩ | ⟨n, rfl⟩ <;> rfl
theorem z_putR {x : Nat} (hF : zF M.1 idx ci j t fin) (ht : (∃ n, t = .object n) ∨ ∃ n, t = .array n) (hin : fin = true → M.2.1.name = "<init>") (hO : zO T k ci) (hd : decode M.2.2.1 pc = .ok (.putfield idx, 3)) (kk : zg g d M T0 (pc + 3) ls st (zQ T k j x) S v T' S') : zg g d M T0 pc ls (.ref x :: .ref k :: st) T S v T' S' := by
  refine z_put (T1 := zQ T k j x) (S1 := S) hF hin hO rfl rfl rfl (fun g => (zref_nf ht g x).1) (fun g => (zref_nf ht g x).2) (fun g => ?_) (fun g => zQ_V2 g) (fun g a ha => zce_congr rfl rfl rfl rfl (zQ_other ha)) hd kk
  rw [zkd_ref ht]
  have e : (zQ T k j x).2.2.2.2 k j = x := if_pos ⟨rfl, rfl⟩
  exact congrArg (fun r => va_rf (zro g r)) e
end Z6
/-- a final field seen from another class -/
def zFx (own : String) (idx ci j : Nat) (t : FieldType) : Prop :=
  ∃ (C : String) (X : u_T) (N : Nat) (ty : Nat → FieldType), zC ci C X N ty ∧ j < N ∧ Cond.fieldLink own idx (X j).1 (X j).2.1 (X j).2.2.1 ∈ zTb ∧ ty j = t
theorem zF.x {own : String} {idx ci j : Nat} {t : FieldType} {fin : Bool} (h : zF own idx ci j t fin) : zFx own idx ci j t := by
  obtain ⟨C, X, N, ty, h1, h2, h3, h4, -⟩ := h
  exact ⟨C, X, N, ty, h1, h2, h3, h4⟩
