/-! THE CLAUSES OF A BOOK, by the reference -/
def rbk (S : zS) (B : Bk) : Prop := (∀ t, t < 8 → S.1 199 (8 + t) = if zm (bth B) t then 1 else 0) ∧ (∀ t, t < 8 → ∀ j, j < 6 → S.1 (200 + j) (8 + t) = B.1 j t) ∧ S.1 210 1 = B.1 6 1 ∧ S.1 209 1 = B.1 6 2 ∧ S.1 206 1 = B.1 6 3 ∧ S.1 207 1 = B.1 6 4 ∧ S.1 208 1 = B.1 6 5
def rcl (S : zS) (e : Nat) (L : List Cl) : Prop := ∀ i c, L[i]? = some c → okC c.2.2.2 ∧ c.1 ≤ 6 ∧ S.1 192 (24 + i) = nI c.1 ∧ (c.1 = 1 → S.1 193 (24 + i) = c.2.1) ∧ (c.1 = 2 → c.2.1 = 0) ∧ (c.1 = 1 ∨ c.1 = 2 → S.1 194 (24 + i) = c.2.2.1 ∧ ∃ s, S.1 196 (24 + i) = nI s ∧ S.1 197 (24 + i) = nI (s + c.2.2.2.length) ∧ s + c.2.2.2.length ≤ e ∧ rAt S.1 wmB (300 + s) c.2.2.2)
def untB (B : Bk) : Prop := ∀ t, t < 8 → zm (bth B) t = false → B.1 2 t = -1 ∧ B.1 3 t = 0 ∧ B.1 4 t = 0 ∧ B.1 5 t = 0
def fRb (S S' : zS) : Prop := S'.2 = S.2 ∧ ∀ a b, ¬ (a = 187 ∧ (b = 2 ∨ b = 3 ∨ 6 ≤ b ∧ b ≤ 9)) → ¬ ((a = 189 ∨ a = 190) ∧ 300 ≤ b ∧ b < 600) → ¬ (192 ≤ a ∧ a ≤ 197 ∧ 24 ≤ b ∧ b < 48) → a ≠ 198 → ¬ (199 ≤ a ∧ a ≤ 205 ∧ 8 ≤ b ∧ b < 16) → ¬ (206 ≤ a ∧ a ≤ 210 ∧ b = 1) → S'.1 a b = S.1 a b
theorem fRb_tr {S S' S'' : zS} (h : fRb S S') (g : fRb S' S'') : fRb S S'' := ⟨g.1.trans h.1, fun a b x y z v w q => (g.2 a b x y z v w q).trans (h.2 a b x y z v w q)⟩
theorem fRb_T {S S' : zS} (h : oT 1 S S') : fRb S S' := ⟨h.1, fun a b x y _ z _ _ => h.2 a b x (by omega) z⟩
theorem fRb_N {S S' : zS} (h : oN S S') : fRb S S' := fRb_T (oT_S (oN_S h))
theorem fRb_z {S : zS} {a b : Nat} {x : Int32} (h : 192 ≤ a ∧ a ≤ 197 ∧ 24 ≤ b ∧ b < 48 ∨ 199 ≤ a ∧ a ≤ 205 ∧ 8 ≤ b ∧ b < 16 ∨ 206 ≤ a ∧ a ≤ 210 ∧ b = 1) : fRb S (zI S a b x) := ⟨rfl, fun c d _ _ p _ q r => by rw [zI_at, if_neg (by rintro ⟨rfl, rfl⟩; rcases h with h | h | h; exact p h; exact q h; exact r h)]⟩
theorem fRb_refl {S : zS} : fRb S S := ⟨rfl, fun _ _ _ _ _ _ _ _ => rfl⟩
/-- rows above the code's -/
def oV (S S' : zS) : Prop := S'.2 = S.2 ∧ ∀ a b, ¬ (192 ≤ a ∧ a ≤ 210) → S'.1 a b = S.1 a b
theorem oV_z {S : zS} {a b : Nat} {x : Int32} (h : 192 ≤ a ∧ a ≤ 210) : oV S (zI S a b x) := ⟨rfl, fun c d y => by rw [zI_at, if_neg (fun q => y (by rw [q.1]; exact h))]⟩
theorem oV_tr {S S' S'' : zS} (h : oV S S') (g : oV S' S'') : oV S S'' := ⟨g.1.trans h.1, fun a b x => (g.2 a b x).trans (h.2 a b x)⟩
section
variable {T : zT} {u : Nat → Nat} {n m : Nat}
theorem ctR_V {S S' : zS} {s : Nat} (h : ctR u n s S) (o : oV S S') : ctR u n s S' := ⟨txR_o h.1 (o.2 _ _ (by omega)) (fun i => o.2 _ _ (by omega)), by rw [o.2 _ _ (by omega)]; exact h.2.1, h.2.2.1, by rw [o.2 _ _ (by omega)]; exact h.2.2.2⟩
theorem stR_V {S S' : zS} {s i e k : Nat} (h : stR u n s m S i e k) (o : oV S S') : stR u n s m S' i e k := ⟨ctR_V h.1 o, h.2.1, by rw [o.2 _ _ (by omega)]; exact h.2.2.1, by rw [o.2 _ _ (by omega)]; exact h.2.2.2.1, by rw [o.2 _ _ (by omega)]; exact h.2.2.2.2.1, by rw [o.2 _ _ (by omega)]; exact h.2.2.2.2.2⟩
theorem pfR_V {S S' : zS} {s : Nat} {F : Int32} {c : Nat} (h : pfR u n s c S F) (o : oV S S') : pfR u n s c S' F := ⟨ctR_V h.1 o, by rw [o.2 _ _ (by omega)]; exact h.2.1, by rw [o.2 _ _ (by omega)]; exact h.2.2⟩
def rB (u : Nat → Nat) (n m : Nat) (S : zS) (i e kk : Nat) (B : Bk) : Prop := stR u n 1 m S i e kk ∧ S.1 187 7 = nI 0 ∧ rbk S B ∧ rcl S e B.2 ∧ untB B ∧ kk ≤ 60 ∧ 3 * e ≤ 6 * kk + pl u n i
/-- amid a clause of kind kd -/
def mdR (u : Nat → Nat) (n m : Nat) (S : zS) (i e kk : Nat) (B : Bk) (kd : Nat) : Prop := rB u n m S i e kk B ∧ S.1 192 (24 + B.2.length) = nI kd ∧ S.1 196 (24 + B.2.length) = nI e
def bbR (u : Nat → Nat) (n m : Nat) (S : zS) (r : BR) (S' : zS) : Prop := fRb S S' ∧ match r with
  | .inl f => pfR u n 1 1 S' (flt f)
  | .inr p => ∃ e', rB u n m S' p.1 e' p.2.1 p.2.2
theorem rbk_cg {S S' : zS} {B : Bk} (h : rbk S B) (e : ∀ a b, 199 ≤ a → a ≤ 210 → S'.1 a b = S.1 a b) : rbk S' B := by
  obtain ⟨h1, h2, h3, h4, h5, h6, h7⟩ := h
  refine ⟨fun t ht => by rw [e _ _ (by omega) (by omega)]; exact h1 t ht, fun t ht j hj => by rw [e _ _ (by omega) (by omega)]; exact h2 t ht j hj, ?_, ?_, ?_, ?_, ?_⟩ <;> (rw [e _ _ (by omega) (by omega)]; assumption)
theorem rcl_cg {S S' : zS} {e e' : Nat} {L : List Cl} (h : rcl S e L) (hx : ∀ a b, 192 ≤ a → a ≤ 197 → 24 ≤ b → b < 24 + L.length → S'.1 a b = S.1 a b) (hy : ∀ a b, a = 189 ∨ a = 190 → b < 300 + e → S'.1 a b = S.1 a b) (he : e ≤ e') : rcl S' e' L := by
  intro i c hc
  have hi := (List.getElem?_eq_some_iff.mp hc).1
  obtain ⟨a1, a2, a3, a4, a5, a6⟩ := h i c hc
  have e1 : ∀ a, 192 ≤ a → a ≤ 197 → S'.1 a (24 + i) = S.1 a (24 + i) := fun a q1 q2 => hx a _ q1 q2 (by omega) (by omega)
  refine ⟨a1, a2, by rw [e1 _ (by omega) (by omega)]; exact a3, fun q => by rw [e1 _ (by omega) (by omega)]; exact a4 q, a5, fun q => ?_⟩
  obtain ⟨b1, s, b2, b3, b4, b5⟩ := a6 q
  refine ⟨by rw [e1 _ (by omega) (by omega)]; exact b1, s, by rw [e1 _ (by omega) (by omega)]; exact b2, by rw [e1 _ (by omega) (by omega)]; exact b3, by omega, fun j p hj => ?_⟩
  have hj' := (List.getElem?_eq_some_iff.mp hj).1
  rw [hy 189 _ (Or.inl rfl) (by omega), hy 190 _ (Or.inr rfl) (by omega)]
  exact b5 j p hj
theorem rcl_app {S : zS} {e : Nat} {L : List Cl} {c : Cl} (h : rcl S e L) (h1 : okC c.2.2.2) (h2 : c.1 ≤ 6) (h3 : S.1 192 (24 + L.length) = nI c.1) (h4 : c.1 = 1 → S.1 193 (24 + L.length) = c.2.1) (h5 : c.1 = 2 → c.2.1 = 0) (h6 : c.1 = 1 ∨ c.1 = 2 → S.1 194 (24 + L.length) = c.2.2.1 ∧ ∃ s, S.1 196 (24 + L.length) = nI s ∧ S.1 197 (24 + L.length) = nI (s + c.2.2.2.length) ∧ s + c.2.2.2.length ≤ e ∧ rAt S.1 wmB (300 + s) c.2.2.2) : rcl S e (L ++ [c]) := by
  intro i d hd
  by_cases y : i < L.length
  · rw [List.getElem?_append_left y] at hd
    exact h i d hd
  · rw [List.getElem?_append_right (by omega)] at hd
    have hi1 : i - L.length < 1 := (List.getElem?_eq_some_iff.mp hd).1
    have hi : i = L.length := by omega
    rw [hi, Nat.sub_self] at hd
    have hcc := (Option.some.inj hd).symm
    rw [hi, hcc]
    exact ⟨h1, h2, h3, h4, h5, h6⟩
/-- numbers read leave it -/
theorem mdR_N {S S' : zS} {i i' e kk kd : Nat} {B : Bk} (h : mdR u n m S i e kk B kd) (o : oN S S') (s : stR u n 1 m S' i' e kk) (hi : pl u n i ≤ pl u n i') : mdR u n m S' i' e kk B kd := by
  obtain ⟨⟨h1, h2, h3, h4, h5, h6, h7⟩, h8, h9⟩ := h
  exact ⟨⟨s, by rw [o.2 _ _ (by omega)]; exact h2, rbk_cg h3 (fun a b _ _ => o.2 a b (by omega)), rcl_cg h4 (fun a b _ _ _ _ => o.2 a b (by omega)) (fun a b _ _ => o.2 a b (by omega)) (Nat.le_refl _), h5, h6, by omega⟩, by rw [o.2 _ _ (by omega)]; exact h8, by rw [o.2 _ _ (by omega)]; exact h9⟩
def rowF (fld : Nat) : Nat := if fld = 1 then 210 else if fld = 2 then 209 else if fld = 3 then 206 else if fld = 4 then 207 else 208
theorem rowF_r {fld : Nat} : 206 ≤ rowF fld ∧ rowF fld ≤ 210 := by
  unfold rowF
  refine ⟨?_, ?_⟩ <;> (repeat' split) <;> omega
theorem mdR_set {S : zS} {i e kk kd fld : Nat} {B : Bk} {v : Int32} (h : mdR u n m S i e kk B kd) (hf : 1 ≤ fld ∧ fld ≤ 5) : mdR u n m (zI S (rowF fld) 1 v) i e kk (setB B 6 fld v) kd := by
  obtain ⟨⟨h1, h2, ⟨a1, a2, a3, a4, a5, a6, a7⟩, h4, h5, h6, h7⟩, h8, h9⟩ := h
  have hr := rowF_r (fld := fld)
  have eb : bth (setB B 6 fld v) = bth B := by
    show (if 6 = 6 ∧ 0 = fld then v else B.1 6 0) = B.1 6 0
    rw [if_neg (by omega)]
  refine ⟨⟨stR_V h1 (oV_z (by omega)), by rw [zI_ne (by omega)]; exact h2, ⟨fun t ht => ?_, fun t ht j hj => ?_, ?_⟩, rcl_cg h4 (fun a b _ _ _ _ => zI_ne (by omega)) (fun a b _ _ => zI_ne (by omega)) (Nat.le_refl _), fun t ht hz => ?_, h6, h7⟩, by rw [zI_ne (by omega)]; exact h8, by rw [zI_ne (by omega)]; exact h9⟩
  · rw [eb, zI_ne (by omega)]; exact a1 t ht
  · rw [zI_ne (by omega)]
    show _ = if j = 6 ∧ t = fld then v else B.1 j t
    rw [if_neg (by omega)]; exact a2 t ht j hj
  · have : fld = 1 ∨ fld = 2 ∨ fld = 3 ∨ fld = 4 ∨ fld = 5 := by omega
    rcases this with rfl | rfl | rfl | rfl | rfl
    · exact ⟨rfl, a4, a5, a6, a7⟩
    · exact ⟨a3, rfl, a5, a6, a7⟩
    · exact ⟨a3, a4, rfl, a6, a7⟩
    · exact ⟨a3, a4, a5, rfl, a7⟩
    · exact ⟨a3, a4, a5, a6, rfl⟩
  · rw [eb] at hz
    obtain ⟨b1, b2, b3, b4⟩ := h5 t ht hz
    have e : ∀ j, j ≠ 6 → (setB B 6 fld v).1 j t = B.1 j t := fun j hj => if_neg (fun q => hj q.1)
    exact ⟨by rw [e 2 (by decide)]; exact b1, by rw [e 3 (by decide)]; exact b2, by rw [e 4 (by decide)]; exact b3, by rw [e 5 (by decide)]; exact b4⟩
/-- the end of a clause without a test -/
theorem r_b177 (hT : iT T) {S : zS} {i e kk kd : Nat} {B : Bk} (h : mdR u n m S i e kk B kd) (h24 : B.2.length < 24) (hk : kd ≤ 6 ∧ kd ≠ 1 ∧ kd ≠ 2) : ∃ S', fX12_bookClause_b177 T 187 (nI (24 + B.2.length)) S = some ((), S') ∧ fRb S S' ∧ rB u n m S' i e kk (addB B (kd, 0, 0, [])) := by
  obtain ⟨⟨h1, h2, h3, h4, h5, h6, h7⟩, h8, h9⟩ := h
  unfold fX12_bookClause_b177
  rw [g_in (by omega) (by decide), zT_187_20 hT, tn_nI (by omega), let_q]
  refine ⟨_, rfl, fRb_z (by omega), stR_V h1 (oV_z (by omega)), by rw [zI_ne (by omega)]; exact h2, rbk_cg h3 (fun a b _ _ => zI_ne (by omega)), ?_, h5, h6, h7⟩
  exact rcl_app (c := (kd, 0, 0, [])) (rcl_cg h4 (fun a b _ _ _ q => zI_o (by omega)) (fun a b _ _ => zI_ne (by omega)) (Nat.le_refl _)) (Or.inl rfl) hk.1 (by rw [zI_ne (by omega)]; exact h8) (fun q => absurd q hk.2.1) (fun q => absurd q hk.2.2) (fun q => absurd q (by rintro (q | q); exact hk.2.1 q; exact hk.2.2 q))
theorem r_b177F (hT : iT T) {S : zS} {F : Int32} {c L : Nat} (h : pfR u n 1 c S F) (hc : c ≤ 1) (h24 : L < 24) : ∃ S', fX12_bookClause_b177 T 187 (nI (24 + L)) S = some ((), S') ∧ fRb S S' ∧ pfR u n 1 1 S' F := by
  unfold fX12_bookClause_b177
  rw [g_in (by omega) (by decide), zT_187_20 hT, tn_nI (by omega), let_q]
  exact ⟨_, rfl, fRb_z (by omega), pfR_le (pfR_V h (oV_z (by omega))) hc⟩
theorem pl_go (i : Nat) : pl u n i ≤ pl u n (i + 1) := (pl_mono (u := u) (n := n) i).1
/-- a number, put into a field -/
theorem r_once (hT : iT T) (hm : m ≤ n ∧ pl u n m = n ∧ ∀ i, i < m → pl u n i < n) {S : zS} {i e kk kd low top fld : Nat} {B : Bk} (h : mdR u n m S i e kk B kd) (h1 : low ≤ 99999) (h2 : top ≤ 99999) (hf : 1 ≤ fld ∧ fld ≤ 5) : ∃ v S1, fX12_amount T 187 (nI low) (nI top) S = some (v, S1) ∧ fRb S (zI S1 (rowF fld) 1 v) ∧ match numS (tkX u n wB) low top i with
    | .inl f => pfR u n 1 0 (zI S1 (rowF fld) 1 v) (flt f)
    | .inr V => mdR u n m (zI S1 (rowF fld) 1 v) (i + 1) e kk (setB B 6 fld (nI V)) kd := by
  obtain ⟨v, S1, e1, o1, r1⟩ := r_nm (w := wB) hT h.1.1 hm h1 h2
  have hr := rowF_r (fld := fld)
  refine ⟨v, S1, e1, fRb_tr (fRb_N o1) (fRb_z (by omega)), ?_⟩
  cases hn : numS (tkX u n wB) low top i with
  | inl f => rw [hn] at r1; exact pfR_V r1 (oV_z (by omega))
  | inr V =>
    rw [hn] at r1
    obtain ⟨hv, s1⟩ := r1
    rw [hv]
    exact mdR_set (mdR_N h o1 s1 (pl_go i)) hf
/-- the if of a clause, and its end -/
theorem r_ifend (hT : iT T) (hn4 : n ≤ 400) (hm : m ≤ n ∧ pl u n m = n ∧ ∀ i, i < m → pl u n i < n) {S : zS} {i e kk kd : Nat} {B : Bk} {x v : Int32} (h : mdR u n m S i e kk B kd) (hi : i ≤ m) (h24 : B.2.length < 24) (hkd : kd = 1 ∨ kd = 2) (hv : S.1 194 (24 + B.2.length) = v) (hx1 : kd = 1 → S.1 193 (24 + B.2.length) = x) (hx2 : kd = 2 → x = 0) : ∃ S2 S', fX12_ifTest T 187 S = some ((), S2) ∧ fX12_bookClause_b177 T 187 (nI (24 + B.2.length)) S2 = some ((), S') ∧ fRb S S' ∧ match ifS (tkX u n wB) i kk with
    | .inl f => pfR u n 1 1 S' (flt f)
    | .inr q => ∃ e', rB u n m S' q.1 e' q.2.1 (addB B (kd, x, v, q.2.2)) := by
  obtain ⟨⟨h1, h2, h3, h4, h5, h6, h7⟩, h8, h9⟩ := h
  have hX := tkX_ok (w := wB) hn4 (Or.inl rfl) hm
  have wmR_s : wmS 1 = wmB := if_pos (by decide)
  obtain ⟨S2, e2, o2', r2⟩ := r_if (w := wB) hT (Or.inl ⟨by decide, rfl⟩) hn4 hm h1 h2 h6 h7
  refine ⟨S2, zI S2 197 (24 + B.2.length) (S2.1 187 6), e2, ?_, fRb_tr (fRb_T o2') (fRb_z (by omega)), ?_⟩
  · unfold fX12_bookClause_b177
    rw [g_in (by omega) (by decide), zT_187_20 hT, tn_nI (by omega), let_q]
  · cases hv2 : ifS (tkX u n wB) i kk with
    | inl f => rw [hv2] at r2; exact pfR_V r2 (oV_z (by omega))
    | inr q =>
      obtain ⟨j2, k2, c2⟩ := q
      obtain ⟨x1, x2, x3, x4, x5, x6, x7, x8, x9⟩ := ifS_ok hX hi h6 hv2
      have eP : ∀ i, (tkX u n wB).2.2.1 i = pl u n i := fun i => rfl
      rw [eP, eP] at x6
      have hpij := P_le hX x1
      rw [eP, eP] at hpij
      have hple := pl_le (u := u) (n := n) j2
      rw [hv2] at r2
      obtain ⟨s2, h72, w2⟩ := r2
      have s2' : stR u n 1 m S2 j2 (e + c2.length) k2 := s2
      have w2' : wrR 1 S S2 e c2 := w2
      have e6 : S2.1 187 6 = nI (e + c2.length) := s2'.2.2.2.2.1
      have row : ∀ a b, 192 ≤ a → a ≤ 197 → S2.1 a b = S.1 a b := fun a b q1 q2 => o2'.2 a b (by omega) (by omega) (by omega)
      refine ⟨e + c2.length, stR_V s2' (oV_z (by omega)), by rw [zI_ne (by omega)]; exact h72, rbk_cg h3 (fun a b _ _ => by rw [zI_ne (by omega), o2'.2 a b (by omega) (by omega) (by omega)]), ?_, h5, x4, by show 3 * (e + c2.length) ≤ 6 * k2 + pl u n j2; omega⟩
      refine rcl_app (c := (kd, x, v, c2)) (rcl_cg h4 (fun a b q1 q2 _ q => ?_) (fun a b q1 q2 => ?_) (by omega)) (x5.imp id (fun q => ⟨q, by show nvs c2 ≤ 60; omega⟩)) (by show kd ≤ 6; omega) ?_ (fun q => ?_) (fun q => hx2 q) (fun _ => ⟨?_, e, ?_, ?_, Nat.le_refl _, ?_⟩)
      · rw [zI_o (by omega), row a b q1 q2]
      · rw [zI_ne (by omega), w2'.1 a b q1 (by omega)]
      · rw [zI_ne (by omega), row _ _ (by omega) (by omega)]; exact h8
      · rw [zI_ne (by omega), row _ _ (by omega) (by omega)]; exact hx1 q
      · rw [zI_ne (by omega), row _ _ (by omega) (by omega)]; exact hv
      · rw [zI_ne (by omega), row _ _ (by omega) (by omega)]; exact h9
      · rw [zI_eqs]; exact e6
      · rw [← wmR_s]
        intro jj p hj
        rw [zI_ne (by omega), zI_ne (by omega)]
        exact w2'.2 jj p hj
end
