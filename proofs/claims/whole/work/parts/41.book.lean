/-! WHAT A BOOK TELLS, in the class and in the reference. B.1 j t: of thing t its loan (0), runs, lost, lends, sells, worth (5); B.1 6 i: things, weeks, coin, luck, cousin, till; B.2: the clauses -/
abbrev Bk : Type := (Nat → Nat → Int32) × List Cl
def bth (B : Bk) : Int32 := B.1 6 0
def bkC (S : zS) (k : Nat) (B : Bk) : Prop :=
  (∀ i, i < 6 → S.1 k i = B.1 6 i) ∧ (∀ t, t < 8 → zm (bth B) t = true → ∀ j, j < 6 → S.1 (k + 1 + j) t = B.1 j t) ∧
  cCls S (k + 7) (k + 15) (B.2.filter (ofK 1)) ∧ cCls S (k + 11) (k + 15) (B.2.filter (ofK 2)) ∧
  (∀ c, c ∈ B.2 → (47, 21) ∈ c.2.2.2 → zm (S.1 (k + 15) 2) 21 = true) ∧ ∃ n, n ≤ 512 ∧ S.1 (k + 15) 1 = nI n
def bkR (R : Nat → Nat → Int32) (B : Bk) : Prop :=
  (∀ t, t < 8 → R 199 t = if zm (bth B) t then 1 else 0) ∧ (∀ t, t < 8 → ∀ j, j < 6 → R (200 + j) t = B.1 j t) ∧
  R 210 0 = B.1 6 1 ∧ R 209 0 = B.1 6 2 ∧ R 206 0 = B.1 6 3 ∧ R 207 0 = B.1 6 4 ∧ R 208 0 = B.1 6 5 ∧ rCls R B.2
/-- x lies between a and b -/
def btw (x : Int32) (a b : Int) : Prop := a ≤ x.toInt ∧ x.toInt ≤ b
def okB (B : Bk) : Prop :=
  is8 (bth B) ∧ (∀ t, t < 8 → zm (bth B) t = true → btw (B.1 0 t) 1 9999 ∧ btw (B.1 1 t) 0 999 ∧ (B.1 2 t = -1 ∨ btw (B.1 2 t) 1 60) ∧ btw (B.1 3 t) 0 9999 ∧ btw (B.1 4 t) 0 9999 ∧ btw (B.1 5 t) 0 9999) ∧
  btw (B.1 6 1) 1 60 ∧ btw (B.1 6 2) 0 9999 ∧ btw (B.1 6 3) 0 1000 ∧ btw (B.1 6 4) 0 9999 ∧ (B.1 6 5 = -1 ∨ btw (B.1 6 5) 1 60) ∧
  B.2.length ≤ 24 ∧ ∀ c, c ∈ B.2 → (c.1 = 1 ∨ c.1 = 2) → btw c.2.2.1 0 9999
theorem cAt_cg {S S' : zS} {kc i : Nat} {c : List (Nat × Nat)} (e : ∀ b, S'.1 kc b = S.1 kc b) (e2 : ∀ b, S'.1 (kc + 1) b = S.1 (kc + 1) b) (h : cAt S kc i c) : cAt S' kc i c := by
  intro j p hj
  rw [e, e2]
  exact h j p hj
theorem cTest_cg {S S' : zS} {kc : Nat} {x : Int32} {c : List (Nat × Nat)} (e : ∀ b, S'.1 kc b = S.1 kc b) (e2 : ∀ b, S'.1 (kc + 1) b = S.1 (kc + 1) b) (h : cTest S kc x c) : cTest S' kc x c := by
  rcases h with h | ⟨h1, s, h2, h3, h4⟩
  · exact Or.inl h
  · exact Or.inr ⟨h1, s, h2, h3, cAt_cg e e2 h4⟩
theorem cCls_cg {S S' : zS} {kk kc : Nat} {l : List Cl} (e : ∀ a b, kk ≤ a → a ≤ kk + 3 → S'.1 a b = S.1 a b) (e1 : ∀ b, S'.1 kc b = S.1 kc b) (e2 : ∀ b, S'.1 (kc + 1) b = S.1 (kc + 1) b) (h : cCls S kk kc l) : cCls S' kk kc l := by
  obtain ⟨h1, h2, h3⟩ := h
  refine ⟨by rw [e _ _ (by omega) (by omega)]; exact h1, h2, fun i c hc => ?_⟩
  obtain ⟨a1, a2, a3, a4⟩ := h3 i c hc
  refine ⟨a1, ?_, ?_, ?_⟩
  · rw [e _ _ (by omega) (by omega)]; exact a2
  · rw [e _ _ (by omega) (by omega)]; exact a3
  · rw [e _ _ (by omega) (by omega)]; exact cTest_cg e1 e2 a4
theorem bkC_cg {S S' : zS} {k : Nat} {B : Bk} (e : ∀ a b, k ≤ a → a ≤ k + 16 → S'.1 a b = S.1 a b) (h : bkC S k B) : bkC S' k B := by
  obtain ⟨h1, h2, h3, h4, h5, n, h6, h7⟩ := h
  refine ⟨fun i hi => ?_, fun t ht hz j hj => ?_, ?_, ?_, fun c hc hm => ?_, n, h6, ?_⟩
  · rw [e _ _ (by omega) (by omega)]; exact h1 i hi
  · rw [e _ _ (by omega) (by omega)]; exact h2 t ht hz j hj
  · exact cCls_cg (fun a b _ _ => e a b (by omega) (by omega)) (fun b => e _ _ (by omega) (by omega)) (fun b => e _ _ (by omega) (by omega)) h3
  · exact cCls_cg (fun a b _ _ => e a b (by omega) (by omega)) (fun b => e _ _ (by omega) (by omega)) (fun b => e _ _ (by omega) (by omega)) h4
  · rw [e _ _ (by omega) (by omega)]; exact h5 c hc hm
  · rw [e _ _ (by omega) (by omega)]; exact h7
theorem rAt_cg {R R' : Nat → Nat → Int32} {wm : Nat → Nat} {i n : Nat} {c : List (Nat × Nat)} (e1 : ∀ b, b < n → R' 189 b = R 189 b) (e2 : ∀ b, b < n → R' 190 b = R 190 b) (hn : i + c.length ≤ n) (h : rAt R wm i c) : rAt R' wm i c := by
  intro j p hj
  have hj' := (List.getElem?_eq_some_iff.mp hj).1
  rw [e1 _ (by omega), e2 _ (by omega)]
  exact h j p hj
theorem rTest_cg {R R' : Nat → Nat → Int32} {wm : Nat → Nat} {a b : Int32} {c : List (Nat × Nat)} (e1 : ∀ b, b < 300 → R' 189 b = R 189 b) (e2 : ∀ b, b < 300 → R' 190 b = R 190 b) (h : rTest R wm a b c) : rTest R' wm a b c := by
  obtain ⟨s, h1, h2, h3, h4⟩ := h
  exact ⟨s, h1, h2, h3, rAt_cg e1 e2 h3 h4⟩
/-- how many cells of a row of the reference's are the book's -/
def rN (a : Nat) : Nat := if a = 189 ∨ a = 190 then 300 else if 192 ≤ a ∧ a ≤ 197 ∧ a ≠ 195 then 24 else if 199 ≤ a ∧ a ≤ 205 then 8 else if a = 191 ∨ 206 ≤ a ∧ a ≤ 210 then 1 else 0
theorem rCls_cg {R R' : Nat → Nat → Int32} {L : List Cl} (e : ∀ a b, b < rN a → R' a b = R a b) (h : rCls R L) : rCls R' L := by
  obtain ⟨h1, h2, h3⟩ := h
  refine ⟨by rw [e _ _ (by decide)]; exact h1, h2, fun i c hc => ?_⟩
  have hi : i < 24 := by have := (List.getElem?_eq_some_iff.mp hc).1; omega
  obtain ⟨a1, a2, a3, a4, a5, a6⟩ := h3 i c hc
  have e' : ∀ a, 192 ≤ a → a ≤ 197 → a ≠ 195 → R' a i = R a i := fun a p q n => e a i (by unfold rN; rw [if_neg (by omega), if_pos ⟨p, q, n⟩]; exact hi)
  rw [e' _ (by omega) (by omega) (by omega), e' _ (by omega) (by omega) (by omega), e' _ (by omega) (by omega) (by omega), e' _ (by omega) (by omega) (by omega), e' _ (by omega) (by omega) (by omega)]
  exact ⟨a1, a2, a3, a4, a5, fun q => ⟨(a6 q).1, rTest_cg (fun b hb => e _ _ hb) (fun b hb => e _ _ hb) (a6 q).2⟩⟩
theorem bkR_cg {R R' : Nat → Nat → Int32} {B : Bk} (e : ∀ a b, b < rN a → R' a b = R a b) (h : bkR R B) : bkR R' B := by
  obtain ⟨h1, h2, h3, h4, h5, h6, h7, h8⟩ := h
  have e8 : ∀ a t, 199 ≤ a → a ≤ 205 → t < 8 → R' a t = R a t := fun a t p q ht => e a t (by unfold rN; rw [if_neg (by omega), if_neg (by omega), if_pos ⟨p, q⟩]; exact ht)
  refine ⟨fun t ht => ?_, fun t ht j hj => ?_, ?_, ?_, ?_, ?_, ?_, rCls_cg e h8⟩
  · rw [e8 _ _ (by omega) (by omega) ht]; exact h1 t ht
  · rw [e8 _ _ (by omega) (by omega) ht]; exact h2 t ht j hj
  all_goals rw [e _ _ (by decide)]; assumption
/-! what an earning comes to -/
theorem ern_btw {env : Nat → Int64} {home : Int32} {l : List Cl} (hl : l.length ≤ 24) (h : ∀ c, c ∈ l → btw c.2.2.1 0 9999) : btw (ern env home l) 0 239976 := by
  have key : ∀ (l : List Cl) (n : Nat) (s : Int32), l.length + n ≤ 24 → (∀ c, c ∈ l → btw c.2.2.1 0 9999) → btw s 0 (9999 * n) → btw (l.foldl (fun s c => s + ernF env home c) s) 0 239976 := by
    intro l
    induction l with
    | nil =>
      intro n s hn _ hs
      exact ⟨hs.1, by have := hs.2; simp only [List.length_nil] at hn; show s.toInt ≤ 239976; omega⟩
    | cons c l ih =>
      intro n s hn h hs
      simp only [List.length_cons] at hn
      refine ih (n + 1) _ (by omega) (fun d hd => h d (List.mem_cons_of_mem _ hd)) ?_
      have hc := h c (List.mem_cons_self ..)
      have hf : btw (ernF env home c) 0 9999 := by
        unfold ernF
        split
        · exact hc
        · exact ⟨by decide, by decide⟩
      obtain ⟨p1, p2⟩ := hs
      obtain ⟨p3, p4⟩ := hf
      have e : (s + ernF env home c).toInt = s.toInt + (ernF env home c).toInt := z_add (by omega) (by omega)
      constructor
      · rw [e]; omega
      · rw [e]; omega
  exact key l 0 0 (by omega) h ⟨by decide, by decide⟩
theorem fil_btw {B : Bk} (h : okB B) {k : Nat} (hk : k = 1 ∨ k = 2) : (B.2.filter (ofK k)).length ≤ 24 ∧ ∀ c, c ∈ B.2.filter (ofK k) → btw c.2.2.1 0 9999 := by
  refine ⟨Nat.le_trans (List.length_filter_le _ _) h.2.2.2.2.2.2.2.1, fun c hc => ?_⟩
  obtain ⟨h1, h2⟩ := List.mem_filter.mp hc
  have h3 : c.1 = k := eq_of_beq h2
  exact h.2.2.2.2.2.2.2.2 c h1 (by omega)
/-- EARNED (k = 1) or NEED (k = 2) -/
def bern (B : Bk) (k : Nat) (w home inn : Int32) : Int32 := ern (envB w (nI (pc home)) (nI (pc inn))) home (B.2.filter (ofK k))
theorem bern_btw {B : Bk} (h : okB B) {k : Nat} (hk : k = 1 ∨ k = 2) (w home inn : Int32) : btw (bern B k w home inn) 0 239976 := ern_btw (fil_btw h hk).1 (fil_btw h hk).2
theorem c_ern {T : zT} (hT : iT T) {B : Bk} {w home inn : Int32} {S : zS} (hb : bkC S 7 B) (i1 : is8 home) (i2 : is8 inn) : zwp (fX0_earnings T 7 163 w home inn S) (fun r => r.1 = bern B 1 w home inn ∧ onlyJ2 S r.2 164) := v_earnings (kk := 14) (kc := 22) (zT_7_12 hT) (zT_7_14 hT) (zT_14_0 hT) (zT_14_1 hT) (zT_14_2 hT) (zT_22_0 hT) (zT_163_0 hT) (zT_163_1 hT) hb.2.2.1 i1 i2
theorem c_need {T : zT} (hT : iT T) {B : Bk} {w home inn : Int32} {S : zS} (hb : bkC S 7 B) (i1 : is8 home) (i2 : is8 inn) : zwp (fX0_needing T 7 163 w home inn S) (fun r => r.1 = bern B 2 w home inn ∧ onlyJ2 S r.2 164) := v_needing (kk := 18) (kc := 22) (zT_7_13 hT) (zT_7_14 hT) (zT_18_0 hT) (zT_18_1 hT) (zT_18_2 hT) (zT_22_0 hT) (zT_163_0 hT) (zT_163_1 hT) hb.2.2.2.1 i1 i2
theorem r_ern {T : zT} (hT : iT T) {B : Bk} {k : Nat} (hk : k = 1 ∨ k = 2) {w home inn : Int32} {S : zS} (hb : bkR S.1 B) (i1 : is8 home) (i2 : is8 inn) : zwp (fX12_comes T 187 (nI k) home inn w S) (fun r => r.1 = bern B k w home inn ∧ onlyJ2 S r.2 211) := v_comes hT hk hb.2.2.2.2.2.2.2 i1 i2
