/-! WHAT HOLDS BETWEEN CALLS -/
/-- a clause of a rule: its kind (0 like, 1 keep), what it keeps, its sum, its test ([]: none) -/
abbrev Rc : Type := Nat × Int32 × List (Nat × Nat) × List (Nat × Nat)
def wR (q : Nat) : Bool := decide (22 ≤ q ∧ q ≤ 25 ∨ q = 13 ∨ q = 8 ∨ 19 ≤ q ∧ q ≤ 21)
def wmR (q : Nat) : Nat := if 22 ≤ q then q - 22 else if q = 13 then 4 else if q = 19 then 5 else if q = 8 then 6 else if q = 20 then 7 else 8
def ofR (k : Nat) (c : Rc) : Bool := c.1 == k
def okRc (c : Rc) : Prop := c.1 ≤ 1 ∧ btw c.2.1 0 9999 ∧ (c.1 = 0 → isS wR c.2.2.1 ∧ nvs c.2.2.1 ≤ 60 ∧ (c.2.2.2 = [] ∨ isT wR c.2.2.2 ∧ nvs c.2.2.2 ≤ 60))
def keepF (L : List Rc) : Int32 := L.foldl (fun k c => if c.1 = 1 then c.2.1 else k) 0
/-- a rule in the class: at cell k -/
def ruC (S : zS) (k : Nat) (L : List Rc) : Prop :=
  S.1 k 2 = nI (L.filter (ofR 0)).length ∧ S.1 k 3 = keepF L ∧
  (∀ i c, (L.filter (ofR 0))[i]? = some c → (∃ s, S.1 (k + 1) i = nI s ∧ s + c.2.2.1.length < 512 ∧ cAt S (k + 3) s (c.2.2.1 ++ [(48, 0)])) ∧ cTest S (k + 3) (S.1 (k + 2) i) c.2.2.2) ∧
  (∀ c, c ∈ L → c.1 = 0 → (47, 25) ∈ c.2.2.1 ∨ (47, 25) ∈ c.2.2.2 → zm (S.1 (k + 3) 2) 25 = true)
/-- a rule in the reference: of number s among its slots -/
def ruR (S : zS) (s : Nat) (L : List Rc) : Prop :=
  S.1 191 s = nI L.length ∧ ∀ i c, L[i]? = some c → S.1 192 (24 * s + i) = nI c.1 ∧ (c.1 = 1 → S.1 194 (24 * s + i) = c.2.1) ∧
  (c.1 = 0 → ∃ a, S.1 195 (24 * s + i) = nI a ∧ S.1 196 (24 * s + i) = nI (a + c.2.2.1.length) ∧ S.1 197 (24 * s + i) = nI (a + c.2.2.1.length + c.2.2.2.length) ∧ a + c.2.2.1.length + c.2.2.2.length ≤ 300 ∧ rAt S.1 wmR (300 * s + a) (c.2.2.1 ++ c.2.2.2))
def okRu (L : List Rc) : Prop := L.length ≤ 12 ∧ ∀ c, c ∈ L → okRc c
/-- where a row of the reference's lies in an image -/
def iof (a : Nat) : Nat := if a = 189 then 1 else if a = 190 then 301 else if a = 191 then 601 else if a = 192 then 602 else if a = 193 then 626 else if a = 194 then 650 else if a = 196 then 674 else if a = 197 then 698 else if 199 ≤ a ∧ a ≤ 205 then 722 + 8 * (a - 199) else if 206 ≤ a ∧ a ≤ 210 then 778 + (a - 206) else if 213 ≤ a ∧ a ≤ 215 then 783 + 60 * (a - 213) else 0
def imR (S : zS) (k a i : Nat) : Int32 := if a = 187 then S.1 227 (980 * k) else S.1 227 (980 * k + iof a + i)
def invI (S : zS) : Prop := ∀ k, k < 4 → S.1 162 k = S.1 228 k ∧ (S.1 162 k = 0 ∨ S.1 162 k = 1 ∧ ∃ B A, okB B ∧ okRw B A ∧ bkC S (78 + 21 * k) B ∧ bkR (imR S k) B ∧ rwC S (95 + 21 * k) A ∧ rwR (imR S k) A)
def invT (S : zS) : Prop := ∃ n, n ≤ 400 ∧ S.1 0 1 = nI n ∧ S.1 187 1 = nI n ∧ ∀ i, i < n → btw (S.1 188 i) (-128) 127 ∧ S.1 1 i = S.1 188 i &&& 255
def invR (S : zS) : Prop := ∃ r, r ≤ 6 ∧ S.1 0 7 = nI r ∧ S.1 187 5 = nI r ∧ ∀ q, q < r → ∃ L, okRu L ∧ ruC S (46 + 5 * q) L ∧ ruR S (2 + q) L
def invB (B : Bk) (A : Rw) (S : zS) : Prop := okB B ∧ okRw B A ∧ bkC S 7 B ∧ bkR S.1 B ∧ rwC S 41 A ∧ rwR S.1 A
def invP (B : Bk) (S : zS) : Prop := S.1 176 2 = 0 ∨ S.1 176 2 = 1 ∧ plOK B S.1
def inv (S : zS) : Prop := invT S ∧ invR S ∧ invI S ∧ ∃ B A, invB B A S ∧ invP B S
def invTS (T : zT) (S : zS) : Prop := iT T ∧ inv S
/-- the cells that it speaks of -/
def kpP (a b : Nat) : Bool := decide (a = 176 ∧ 2 ≤ b ∨ 177 ≤ a ∧ a ≤ 180)
def kp (a b : Nat) : Bool := decide (a = 0 ∨ a = 1 ∨ 7 ≤ a ∧ a ≤ 23 ∨ 41 ≤ a ∧ a ≤ 44 ∨ 46 ≤ a ∧ a ≤ 75 ∨ 78 ≤ a ∧ a ≤ 162 ∨ a = 187 ∧ (b = 1 ∨ b = 5 ∨ b = 36) ∨ 188 ≤ a ∧ a ≤ 197 ∨ 199 ≤ a ∧ a ≤ 210 ∨ 213 ≤ a ∧ a ≤ 215 ∨ a = 227 ∨ a = 228)
theorem bkC_kp {S S' : zS} {k : Nat} {B : Bk} (e : ∀ a b, kp a b = true → S'.1 a b = S.1 a b) (hk : k = 7 ∨ ∃ q, q < 4 ∧ k = 78 + 21 * q) (h : bkC S k B) : bkC S' k B := bkC_cg (fun a b h1 h2 => e a b (decide_eq_true (by rcases hk with rfl | ⟨q, hq, rfl⟩ <;> omega))) h
theorem ruC_cg {S S' : zS} {k : Nat} {L : List Rc} (e : ∀ a b, k ≤ a → a ≤ k + 4 → S'.1 a b = S.1 a b) (h : ruC S k L) : ruC S' k L := by
  obtain ⟨h1, h2, h3, h4⟩ := h
  refine ⟨by rw [e _ _ (by omega) (by omega)]; exact h1, by rw [e _ _ (by omega) (by omega)]; exact h2, fun i c hc => ?_, fun c hc h0 hm => by rw [e _ _ (by omega) (by omega)]; exact h4 c hc h0 hm⟩
  obtain ⟨⟨s, a1, a2, a3⟩, a4⟩ := h3 i c hc
  rw [e _ _ (by omega) (by omega), e _ _ (by omega) (by omega)]
  exact ⟨⟨s, a1, a2, cAt_cg (fun b => e _ _ (by omega) (by omega)) (fun b => e _ _ (by omega) (by omega)) a3⟩, cTest_cg (fun b => e _ _ (by omega) (by omega)) (fun b => e _ _ (by omega) (by omega)) a4⟩
theorem ruR_cg {S S' : zS} {s : Nat} {L : List Rc} (hl : L.length ≤ 24) (e : ∀ a b, 189 ≤ a → a ≤ 197 → (a ≤ 190 → 300 * s ≤ b ∧ b < 300 * s + 300) → (a = 191 → b = s) → (192 ≤ a → 24 * s ≤ b ∧ b < 24 * s + 24) → S'.1 a b = S.1 a b) (h : ruR S s L) : ruR S' s L := by
  obtain ⟨h1, h2⟩ := h
  refine ⟨by rw [e _ _ (by omega) (by omega) (by omega) (by omega) (by omega)]; exact h1, fun i c hc => ?_⟩
  have hi := (List.getElem?_eq_some_iff.mp hc).1
  obtain ⟨a1, a2, a3⟩ := h2 i c hc
  rw [e 192 _ (by omega) (by omega) (by omega) (by omega) (by omega), e 194 _ (by omega) (by omega) (by omega) (by omega) (by omega), e 195 _ (by omega) (by omega) (by omega) (by omega) (by omega), e 196 _ (by omega) (by omega) (by omega) (by omega) (by omega), e 197 _ (by omega) (by omega) (by omega) (by omega) (by omega)]
  refine ⟨a1, a2, fun q => ?_⟩
  obtain ⟨a, b1, b2, b3, b4, b5⟩ := a3 q
  refine ⟨a, b1, b2, b3, b4, fun j p hj => ?_⟩
  have hj' := (List.getElem?_eq_some_iff.mp hj).1
  rw [List.length_append] at hj'
  rw [e 189 _ (by omega) (by omega) (by omega) (by omega) (by omega), e 190 _ (by omega) (by omega) (by omega) (by omega) (by omega)]
  exact b5 j p hj
theorem rwR_cg {R R' : Nat → Nat → Int32} {A : Rw} (hA : A.1 ≤ 60) (e1 : R' 187 36 = R 187 36) (e2 : ∀ a b, 213 ≤ a → a ≤ 215 → b < 60 → R' a b = R a b) (h : rwR R A) : rwR R' A := ⟨by rw [e1]; exact h.1, fun i hi j hj => by rw [e2 _ _ (by omega) (by omega) (by omega)]; exact h.2 i hi j hj⟩
theorem imR_eq {S S' : zS} {k : Nat} (e : ∀ b, S'.1 227 b = S.1 227 b) : imR S' k = imR S k := by
  funext a i
  unfold imR
  rw [e, e]
theorem invT_kp {S S' : zS} (e : ∀ a b, kp a b = true → S'.1 a b = S.1 a b) (h : invT S) : invT S' := by
  obtain ⟨n, h1, h2, h3, h4⟩ := h
  refine ⟨n, h1, by rw [e _ _ rfl]; exact h2, by rw [e _ _ rfl]; exact h3, fun i hi => ?_⟩
  rw [e 188 i (by unfold kp; exact decide_eq_true (by omega)), e 1 i (by unfold kp; exact decide_eq_true (by omega))]
  exact h4 i hi
theorem invR_kp {S S' : zS} (e : ∀ a b, kp a b = true → S'.1 a b = S.1 a b) (h : invR S) : invR S' := by
  obtain ⟨r, h1, h2, h3, h4⟩ := h
  refine ⟨r, h1, by rw [e _ _ rfl]; exact h2, by rw [e _ _ rfl]; exact h3, fun q hq => ?_⟩
  obtain ⟨L, a1, a2, a3⟩ := h4 q hq
  exact ⟨L, a1, ruC_cg (fun a b _ _ => e a b (decide_eq_true (by omega))) a2, ruR_cg (by have := a1.1; omega) (fun a b _ _ _ _ _ => e a b (decide_eq_true (by omega))) a3⟩
theorem invI_kp {S S' : zS} (e : ∀ a b, kp a b = true → S'.1 a b = S.1 a b) (h : invI S) : invI S' := by
  intro k hk
  obtain ⟨h1, h2⟩ := h k hk
  rw [e 162 k (decide_eq_true (by omega)), e 228 k (decide_eq_true (by omega))]
  refine ⟨h1, h2.imp id ?_⟩
  rintro ⟨h3, B, A, a1, a2, a3, a4, a5, a6⟩
  rw [imR_eq (S := S) (S' := S') (k := k) (fun b => e 227 b (decide_eq_true (by omega)))]
  exact ⟨h3, B, A, a1, a2, bkC_kp e (Or.inr ⟨k, hk, rfl⟩) a3, a4, rwC_cg (fun a b _ _ => e a b (decide_eq_true (by omega))) a5, a6⟩
theorem bkR_kp {S S' : zS} {B : Bk} (e : ∀ a b, kp a b = true → S'.1 a b = S.1 a b) (h : bkR S.1 B) : bkR S'.1 B := bkR_cg (fun a b hab => by
  have h1 := rN_big hab
  refine e a b (decide_eq_true ?_)
  have : a ≠ 198 := by
    intro z; subst z
    exact absurd hab (by unfold rN; simp)
  omega) h
theorem invB_kp {S S' : zS} {B : Bk} {A : Rw} (e : ∀ a b, kp a b = true → S'.1 a b = S.1 a b) (h : invB B A S) : invB B A S' := by
  obtain ⟨a1, a2, a3, a4, a5, a6⟩ := h
  exact ⟨a1, a2, bkC_kp e (Or.inl rfl) a3, bkR_kp e a4, rwC_cg (fun a b _ _ => e a b (decide_eq_true (by omega))) a5, rwR_cg a2.1 (e _ _ rfl) (fun a b _ _ _ => e a b (decide_eq_true (by omega))) a6⟩
theorem invP_kp {S S' : zS} {B : Bk} (e : ∀ a b, kp a b = true → S'.1 a b = S.1 a b) (e' : ∀ a b, kpP a b = true → S'.1 a b = S.1 a b) (h : invP B S) : invP B S' := by
  have e1 : ∀ b, S'.1 177 b = S.1 177 b := fun b => e' _ _ (decide_eq_true (by omega))
  have e2 : ∀ b, S'.1 178 b = S.1 178 b := fun b => e' _ _ (decide_eq_true (by omega))
  have e3 : ∀ b, S'.1 179 b = S.1 179 b := fun b => e' _ _ (decide_eq_true (by omega))
  have e4 : ∀ b, S'.1 180 b = S.1 180 b := fun b => e' _ _ (decide_eq_true (by omega))
  unfold invP plOK at h ⊢
  simp only [e1, e2, e3, e4, e' 176 2 rfl, e' 176 3 rfl, e' 176 4 rfl, e' 176 5 rfl, e' 176 6 rfl, e 22 2 rfl]
  exact h
/-- what leaves those cells keeps it -/
theorem inv_kp {S S' : zS} (e : ∀ a b, kp a b = true → S'.1 a b = S.1 a b) (e' : ∀ a b, kpP a b = true → S'.1 a b = S.1 a b) (h : inv S) : inv S' := by
  obtain ⟨h1, h2, h3, B, A, h4, h5⟩ := h
  exact ⟨invT_kp e h1, invR_kp e h2, invI_kp e h3, B, A, invB_kp e h4, invP_kp e e' h5⟩
theorem kp_C {S S' : zS} (h : gC S S') : (∀ a b, kp a b = true → S'.1 a b = S.1 a b) ∧ ∀ a b, kpP a b = true → S'.1 a b = S.1 a b := ⟨fun a b q => h.1 a b (by have := of_decide_eq_true q; omega), fun a b q => h.1 a b (by have := of_decide_eq_true q; omega)⟩
theorem kp_R {S S' : zS} (h : hR S S') : (∀ a b, kp a b = true → S'.1 a b = S.1 a b) ∧ ∀ a b, kpP a b = true → S'.1 a b = S.1 a b := ⟨fun a b q => h.1 a b (by have := of_decide_eq_true q; omega) (by have := of_decide_eq_true q; omega), fun a b q => h.1 a b (by have := of_decide_eq_true q; omega) (by have := of_decide_eq_true q; omega)⟩
theorem inv_C {S S' : zS} (h : gC S S') (hi : inv S) : inv S' := inv_kp (kp_C h).1 (kp_C h).2 hi
theorem inv_R {S S' : zS} (h : hR S S') (hi : inv S) : inv S' := inv_kp (kp_R h).1 (kp_R h).2 hi
theorem inv_J {S S' : zS} (h : S'.1 = S.1) (hi : inv S) : inv S' := inv_kp (fun a b _ => by rw [h]) (fun a b _ => by rw [h]) hi
