/-! A CLAUSE OF A BOOK: what it tells -/
def bIdx (q : Nat) : Nat := if q = 0 then 0 else if q = 1 then 1 else if q = 4 then 2 else if q = 5 then 3 else if q = 6 then 4 else if q = 8 then 5 else if q = 9 then 6 else 7
def setB (B : Bk) (j t : Nat) (v : Int32) : Bk := (fun a b => if a = j ∧ b = t then v else B.1 a b, B.2)
def addB (B : Bk) (c : Cl) : Bk := (B.1, B.2 ++ [c])
def toldL (L : List Cl) (k : Nat) : Bool := L.any (fun c => c.1 == k)
theorem toldL_add {L : List Cl} {c : Cl} {k : Nat} : toldL (L ++ [c]) k = (toldL L k || c.1 == k) := by
  unfold toldL
  rw [List.any_append]
  exact congrArg (fun z => _ || z) (Bool.or_false _)
abbrev BR : Type := (Nat × Nat) ⊕ (Nat × Nat × Bk)
def onceS (X : TK) (B : Bk) (low top fld idx i k : Nat) : BR := match numS X low top i with
  | .inl f => .inl f
  | .inr v => .inr (i + 1, k, addB (setB B 6 fld (nI v)) (idx, 0, 0, []))
def cousS (X : TK) (B : Bk) (i k : Nat) : BR := match numS X 0 9999 i with
  | .inl f => .inl f
  | .inr v => if X.1 (i + 1) = 7 then (match numS X 1 60 (i + 2) with
    | .inl f => .inl f
    | .inr w => .inr (i + 3, k, addB (setB (setB B 6 4 (nI v)) 6 5 (nI w)) (4, 0, 0, []))) else .inl (0, X.2.2.1 (i + 1))
def earnS (X : TK) (B : Bk) (kd : Nat) (x : Int32) (i k : Nat) : BR := match numS X 0 9999 i with
  | .inl f => .inl f
  | .inr v => match ifS X (i + 1) k with
    | .inl f => .inl f
    | .inr q => .inr (q.1, q.2.1, addB B (kd, x, nI v, q.2.2))
def ltS (X : TK) (hm : Int32) : Nat → Nat → Int32 → (Nat × Nat) ⊕ (Nat × Int32)
  | 0, i, x => .inr (i, x)
  | n + 1, i, x => if X.1 i = 30 then (if zm hm (X.2.1 i) = true ∧ zm x (X.2.1 i) = false then ltS X hm n (i + 1) (x ||| (1 <<< (nI (X.2.1 i) &&& 31))) else .inl (5, X.2.2.1 i)) else .inr (i, x)
def setS (X : TK) (B : Bk) (i k : Nat) : BR := match ltS X (bth B) 400 i 0 with
  | .inl f => .inl f
  | .inr p => if p.2 = 0 then .inl (0, X.2.2.1 p.1) else if X.1 p.1 = 2 then earnS X B 1 p.2 (p.1 + 1) k else .inl (0, X.2.2.1 p.1)
def exS (X : TK) (t : Nat) : Nat → Nat → (Nat → Bool) → Bk → (Nat × Nat) ⊕ (Nat × Bk)
  | 0, i, _, B => .inr (i, B)
  | n + 1, i, sn, B => if 10 ≤ X.1 i ∧ X.1 i ≤ 13 then (if sn (X.1 i) = true then .inl (4, X.2.2.1 i) else match numS X (if X.1 i = 10 then 1 else 0) (if X.1 i = 10 then 60 else 9999) (i + 1) with
    | .inl f => .inl f
    | .inr v => exS X t n (i + 2) (fun q => sn q || q == X.1 i) (setB B (X.1 i - 8) t (nI v))) else .inr (i, B)
def newT (B : Bk) (t a b : Nat) : Bk := (fun j x => if j ≤ 5 ∧ x = t then (if j = 0 then nI a else if j = 1 then nI b else if j = 2 then -1 else 0) else if j = 6 ∧ x = 0 then bth B ||| (1 <<< (nI t &&& 31)) else B.1 j x, B.2)
def thS (X : TK) (B : Bk) (i k : Nat) : BR := if X.1 i = 30 then (if zm (bth B) (X.2.1 i) = true then .inl (5, X.2.2.1 i) else match numS X 1 9999 (i + 1) with
  | .inl f => .inl f
  | .inr a => match numS X 0 999 (i + 2) with
    | .inl f => .inl f
    | .inr b => match exS X (X.2.1 i) 400 (i + 3) (fun _ => false) (newT B (X.2.1 i) a b) with
      | .inl f => .inl f
      | .inr p => .inr (p.1, k, addB p.2 (0, 0, 0, []))) else .inl (0, X.2.2.1 i)
def bcS (X : TK) (B : Bk) (big : Bool) (i k : Nat) : BR :=
  if bIdx (X.1 i) = 7 then .inl (0, X.2.2.1 i)
  else if big = true ∨ 3 ≤ bIdx (X.1 i) ∧ toldL B.2 (bIdx (X.1 i)) = true then .inl (4, X.2.2.1 i)
  else if X.1 i = 0 then thS X B (i + 1) k
  else if X.1 i = 1 then setS X B (i + 1) k
  else if X.1 i = 4 then earnS X B 2 0 (i + 1) k
  else if X.1 i = 5 then onceS X B 0 1000 3 3 (i + 1) k
  else if X.1 i = 6 then cousS X B (i + 1) k
  else if X.1 i = 8 then onceS X B 0 9999 2 5 (i + 1) k
  else onceS X B 1 60 1 6 (i + 1) k
/-! the class -/
def tldL (S : zS) (L : List Cl) : Prop := ∀ q, q < 10 → (zm (S.1 2 7) q = true ↔ 3 ≤ bIdx q ∧ bIdx q < 7 ∧ toldL L (bIdx q) = true)
def fBc (S S' : zS) : Prop := S'.2 = S.2 ∧ ∀ a b, ¬ (a = 2 ∧ 1 ≤ b ∧ b ≤ 7) → (a < 24 ∨ 40 < a) → S'.1 a b = S.1 a b
theorem fBc_tr {S S' S'' : zS} (h : fBc S S') (g : fBc S' S'') : fBc S S'' := ⟨g.1.trans h.1, fun a b x y => (g.2 a b x y).trans (h.2 a b x y)⟩
theorem fBc_7 {S S' : zS} (h : o7 S S') : fBc S S' := ⟨h.1, fun a b x _ => h.2 a b x⟩
theorem fBc_C {S S' : zS} (h : oC 39 S S') : fBc S S' := ⟨h.1, fun a b x y => h.2 a b (by omega) (by omega) (by omega)⟩
theorem fBc_2 {S S' : zS} (h : o2 S S') : fBc S S' := ⟨h.1, fun a b x _ => h.2 a b (by omega)⟩
/-- rows of the book's own, but for its code -/
def oK (S S' : zS) : Prop := S'.2 = S.2 ∧ ∀ a b, ¬ (24 ≤ a ∧ a ≤ 38) → S'.1 a b = S.1 a b
theorem fBc_K {S S' : zS} (h : oK S S') : fBc S S' := ⟨h.1, fun a b _ y => h.2 a b (by omega)⟩
theorem oK_tr {S S' S'' : zS} (h : oK S S') (g : oK S' S'') : oK S S'' := ⟨g.1.trans h.1, fun a b x => (g.2 a b x).trans (h.2 a b x)⟩
theorem oK_z {S : zS} {a b : Nat} {x : Int32} (h : 24 ≤ a ∧ a ≤ 38) : oK S (zI S a b x) := ⟨rfl, fun c d y => by rw [zI_at, if_neg (fun q => y (by rw [q.1]; exact h))]⟩
def cB (X : TK) (m : Nat) (S : zS) (i kk l : Nat) (B : Bk) : Prop := stC X m 39 S i kk l ∧ l ≤ i ∧ kk ≤ 60 ∧ bkC S 24 B ∧ tldL S B.2
def bcR (X : TK) (m : Nat) (S : zS) (r : BR) (S' : zS) : Prop := fBc S S' ∧ match r with
  | .inl f => pfC X m 39 S' (flt f)
  | .inr p => ∃ l', cB X m S' p.1 p.2.1 l' p.2.2
section
variable {T : zT} {X : TK} {m : Nat}
theorem pfC_K {S S' : zS} {F : Int32} (h : pfC X m 39 S F) (o : oK S S') : pfC X m 39 S' F := by
  obtain ⟨w1, ⟨w2, w3, w4⟩, w5, w6, w7, w8⟩ := h
  exact ⟨tkC_cg w1 (fun a b _ _ => o.2 a b (by omega)) (o.2 _ _ (by omega)), ⟨w2, w3, rdC_cg w4 (fun b _ _ => o.2 _ _ (by omega))⟩, by rw [o.2 _ _ (by omega)]; exact w5, w6, w7, by rw [o.2 _ _ (by omega)]; exact w8⟩
theorem stC_K {S S' : zS} {i k l : Nat} (h : stC X m 39 S i k l) (o : oK S S') : stC X m 39 S' i k l := by
  obtain ⟨b1, b2, b3, b4, b5, b6, b7⟩ := h
  exact ⟨tkC_cg b1 (fun a b _ _ => o.2 a b (by omega)) (o.2 _ _ (by omega)), b2, rdC_cg b3 (fun b _ _ => o.2 _ _ (by omega)), by rw [o.2 _ _ (by omega)]; exact b4, by rw [o.2 _ _ (by omega)]; exact b5, b6, by rw [o.2 _ _ (by omega)]; exact b7⟩
theorem tldL_cg {S S' : zS} {L : List Cl} (h : tldL S L) (e : S'.1 2 7 = S.1 2 7) : tldL S' L := by unfold tldL; rw [e]; exact h
theorem bkC_2 {S S' : zS} {B : Bk} (h : bkC S 24 B) (o : o2 S S') : bkC S' 24 B := bkC_cg (fun a b _ _ => o.2 a b (by omega)) h
theorem bkC_set {S : zS} {B : Bk} (h : bkC S 24 B) {j : Nat} (hj : 1 ≤ j ∧ j ≤ 5) {v : Int32} : bkC (zI S 24 j v) 24 (setB B 6 j v) := by
  obtain ⟨h1, h2, h3, h4, h5, n, h6, h7⟩ := h
  have eb : bth (setB B 6 j v) = bth B := by
    show (if 6 = 6 ∧ 0 = j then v else B.1 6 0) = B.1 6 0
    rw [if_neg (by omega)]
  refine ⟨fun i hi => ?_, fun t ht hz k hk => ?_, cCls_cg (fun a b _ _ => zI_ne (by omega)) (fun b => zI_ne (by omega)) (fun b => zI_ne (by omega)) h3, cCls_cg (fun a b _ _ => zI_ne (by omega)) (fun b => zI_ne (by omega)) (fun b => zI_ne (by omega)) h4, fun c hc hm => by rw [zI_ne (by omega)]; exact h5 c hc hm, n, h6, by rw [zI_ne (by omega)]; exact h7⟩
  · show (zI S 24 j v).1 24 i = if 6 = 6 ∧ i = j then v else B.1 6 i
    rw [zI_eq]
    by_cases z : i = j
    · rw [if_pos z, if_pos ⟨rfl, z⟩]
    · rw [if_neg z, if_neg (fun q => z q.2)]; exact h1 i hi
  · rw [eb] at hz
    show (zI S 24 j v).1 (24 + 1 + k) t = if k = 6 ∧ t = j then v else B.1 k t
    rw [if_neg (by omega), zI_ne (by omega)]
    exact h2 t ht hz k hk
theorem bkC_add0 {S : zS} {B : Bk} {c : Cl} (h : bkC S 24 B) (h1 : c.1 ≠ 1) (h2 : c.1 ≠ 2) (h3 : c.2.2.2 = []) : bkC S 24 (addB B c) := by
  obtain ⟨a1, a2, a3, a4, a5, n, a6, a7⟩ := h
  have f1 : ∀ k, c.1 ≠ k → (B.2 ++ [c]).filter (ofK k) = B.2.filter (ofK k) := fun k hk => by
    rw [List.filter_append, List.filter_cons_of_neg (by unfold ofK; simpa using hk)]
    exact List.append_nil _
  refine ⟨a1, a2, ?_, ?_, fun d hd hm => ?_, n, a6, a7⟩
  · show cCls S (24 + 7) (24 + 15) ((B.2 ++ [c]).filter (ofK 1))
    rw [f1 1 h1]; exact a3
  · show cCls S (24 + 11) (24 + 15) ((B.2 ++ [c]).filter (ofK 2))
    rw [f1 2 h2]; exact a4
  · rcases List.mem_append.mp hd with hd | hd
    · exact a5 d hd hm
    · rw [List.mem_singleton.mp hd, h3] at hm; cases hm
theorem num_i {low top i v : Nat} (hX : okX X m) (h : numS X low top i = .inr v) : low ≤ v ∧ v ≤ top ∧ i + 1 ≤ m := by
  obtain ⟨a, b, c, -⟩ := numS_inr hX h
  exact ⟨a, b, by omega⟩
/-- a number, put into a field -/
theorem c_once (hC : cdT T 39) (hX : okX X m) {S : zS} {i k l low top fld idx : Nat} {B : Bk} (h : stC X m 39 S i k l) (hl : l ≤ i) (hk : k ≤ 60) (hb : bkC S 24 B) (ht : ∀ c : Cl, c.1 = idx → tldL S (B.2 ++ [c])) (h1 : low ≤ 99999) (h2 : top ≤ 99999) (hf : 1 ≤ fld ∧ fld ≤ 5) (hi : 3 ≤ idx) : ∃ v S1, fX6_number T 2 (nI low) (nI top) S = some (v, S1) ∧ bcR X m S (onceS X B low top fld idx i k) (zI S1 24 fld v) := by
  obtain ⟨v, S1, e, o, r⟩ := c_nm hC hX h h1 h2
  refine ⟨v, S1, e, fBc_tr (fBc_2 o) (fBc_K (oK_z (by omega))), ?_⟩
  unfold onceS
  cases hn : numS X low top i with
  | inl f =>
    rw [hn] at r
    exact pfC_K r (oK_z (by omega))
  | inr V =>
    rw [hn] at r
    obtain ⟨hv, s1⟩ := r
    refine ⟨l, stC_K s1 (oK_z (by omega)), by show l ≤ i + 1; omega, hk, ?_, ?_⟩
    · rw [hv]
      exact bkC_add0 (bkC_set (bkC_2 hb o) hf) (by show idx ≠ 1; omega) (by show idx ≠ 2; omega) rfl
    · exact tldL_cg (ht (idx, 0, 0, []) rfl) (by rw [zI_ne (by omega)]; exact o.2 _ _ (by omega))
theorem c_cous (hC : cdT T 39) (hX : okX X m) {S : zS} {i k l : Nat} {B : Bk} (h : stC X m 39 S i k l) (hl : l ≤ i) (hk : k ≤ 60) (hb : bkC S 24 B) (ht : ∀ c : Cl, c.1 = 4 → tldL S (B.2 ++ [c])) : ∃ S1, fX6_readCousin T 2 24 S = some ((), S1) ∧ bcR X m S (cousS X B i k) S1 := by
  obtain ⟨v, S1, e1, o1, r1⟩ := c_nm hC hX h (low := 0) (top := 9999) (by decide) (by decide)
  have e1' : fX6_number T 2 0 9999 S = some (v, S1) := e1
  unfold fX6_readCousin cousS
  rw [e1', b_q, let_q]
  have k1 : oK S1 (zI S1 24 4 v) := oK_z (by omega)
  cases hn : numS X 0 9999 i with
  | inl f =>
    rw [hn] at r1
    have hF := flt_ok (numS_inl hX hn)
    obtain ⟨S2, e2, o2', p2⟩ := pf_exp hC hX hF (pfC_K r1 k1) (x := 7)
    obtain ⟨w, S3, e3, o3, p3⟩ := pf_num hC hX hF p2 (low := 1) (top := 60)
    rw [e2, b_q, e3, b_q, let_q]
    exact ⟨_, rfl, fBc_tr (fBc_2 o1) (fBc_tr (fBc_K k1) (fBc_tr (fBc_2 o2') (fBc_tr (fBc_2 o3) (fBc_K (oK_z (by omega)))))), pfC_K p3 (oK_z (by omega))⟩
  | inr V =>
    rw [hn] at r1
    obtain ⟨hv, s1⟩ := r1
    have s1' := stC_K s1 k1
    obtain ⟨S2, e2, o2', r2⟩ := c_exp hC hX s1' (q := 7) (by decide)
    have e2' : fX6_expect T 2 7 (zI S1 24 4 v) = some ((), S2) := e2
    rw [e2', b_q]
    have b1 := bkC_set (bkC_2 hb o1) (j := 4) (v := v) (by decide)
    by_cases y : X.1 (i + 1) = 7
    · rw [if_pos y] at r2
      obtain ⟨w, S3, e3, o3, r3⟩ := c_nm hC hX r2 (low := 1) (top := 60) (by decide) (by decide)
      have e3' : fX6_number T 2 1 60 S2 = some (w, S3) := e3
      rw [e3', b_q, let_q]
      have ff := fBc_tr (fBc_2 o1) (fBc_tr (fBc_K k1) (fBc_tr (fBc_2 o2') (fBc_tr (fBc_2 o3) (fBc_K (oK_z (S := S3) (a := 24) (b := 5) (x := w) (by omega))))))
      refine ⟨_, rfl, ff, ?_⟩
      show match (if X.1 (i + 1) = 7 then (match numS X 1 60 (i + 2) with
        | .inl f => (.inl f : BR)
        | .inr w => .inr (i + 3, k, addB (setB (setB B 6 4 (nI V)) 6 5 (nI w)) (4, 0, 0, []))) else .inl (0, X.2.2.1 (i + 1))) with
        | .inl f => pfC X m 39 (zI S3 24 5 w) (flt f)
        | .inr p => ∃ l', cB X m (zI S3 24 5 w) p.1 p.2.1 l' p.2.2
      rw [if_pos y]
      cases hn2 : numS X 1 60 (i + 2) with
      | inl f =>
        have r3' : match numS X 1 60 (i + 2) with
          | .inl f => pfC X m 39 S3 (flt f)
          | .inr V => w = nI V ∧ stC X m 39 S3 (i + 2 + 1) k l := r3
        rw [hn2] at r3'
        exact pfC_K r3' (oK_z (by omega))
      | inr W =>
        have r3' : match numS X 1 60 (i + 2) with
          | .inl f => pfC X m 39 S3 (flt f)
          | .inr V => w = nI V ∧ stC X m 39 S3 (i + 2 + 1) k l := r3
        rw [hn2] at r3'
        obtain ⟨hw, s3⟩ := r3'
        refine ⟨l, stC_K s3 (oK_z (by omega)), by show l ≤ i + 3; omega, hk, ?_, ?_⟩
        · rw [hv] at b1
          rw [hw]
          exact bkC_add0 (bkC_set (bkC_2 (bkC_2 b1 (hv ▸ o2')) o3) (by decide)) (by show 4 ≠ 1; decide) (by show 4 ≠ 2; decide) rfl
        · exact tldL_cg (ht (4, 0, 0, []) rfl) (by rw [zI_ne (by omega), o3.2 _ _ (by omega), o2'.2 _ _ (by omega), zI_ne (by omega), o1.2 _ _ (by omega)])
    · rw [if_neg y] at r2
      have hF := flt_ok (show okF (0, X.2.2.1 (i + 1)) from ⟨by show 0 ≤ 5; decide, hX.2.2.2.2.1 (i + 1)⟩)
      obtain ⟨w, S3, e3, o3, p3⟩ := pf_num hC hX hF r2 (low := 1) (top := 60)
      rw [e3, b_q, let_q]
      refine ⟨_, rfl, fBc_tr (fBc_2 o1) (fBc_tr (fBc_K k1) (fBc_tr (fBc_2 o2') (fBc_tr (fBc_2 o3) (fBc_K (oK_z (S := S3) (a := 24) (b := 5) (x := w) (by omega)))))), ?_⟩
      show match (if X.1 (i + 1) = 7 then (match numS X 1 60 (i + 2) with
        | .inl f => (.inl f : BR)
        | .inr w => .inr (i + 3, k, addB (setB (setB B 6 4 (nI V)) 6 5 (nI w)) (4, 0, 0, []))) else .inl (0, X.2.2.1 (i + 1))) with
        | .inl f => pfC X m 39 (zI S3 24 5 w) (flt f)
        | .inr p => ∃ l', cB X m (zI S3 24 5 w) p.1 p.2.1 l' p.2.2
      rw [if_neg y]
      exact pfC_K p3 (oK_z (by omega))
end
