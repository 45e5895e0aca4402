/-! A BOOK READ TO ITS END, both sides -/
theorem btw_n {v : Nat} {a b : Int} (h1 : a ≤ (v : Int)) (h2 : (v : Int) ≤ b) (h : v < 2147483648) : btw (nI v) a b := by
  unfold btw
  rw [nI_toInt h]; exact ⟨h1, h2⟩
theorem okB_f {B : Bk} (h : okB B) {fld : Nat} (hf : 1 ≤ fld ∧ fld ≤ 5) {v : Int32} (hv : fld = 1 ∧ btw v 1 60 ∨ fld = 2 ∧ btw v 0 9999 ∨ fld = 3 ∧ btw v 0 1000 ∨ fld = 4 ∧ btw v 0 9999 ∨ fld = 5 ∧ btw v 1 60) : okB (setB B 6 fld v) := by
  obtain ⟨h1, h2, h3, h4, h5, h6, h7, h8, h9⟩ := h
  have eb : bth (setB B 6 fld v) = bth B := by
    show (if 6 = 6 ∧ 0 = fld then v else B.1 6 0) = B.1 6 0
    rw [if_neg (by omega)]
  refine ⟨by rw [eb]; exact h1, fun t ht hz => ?_, ?_⟩
  · rw [eb] at hz
    have e : ∀ j, j ≤ 5 → (setB B 6 fld v).1 j t = B.1 j t := fun j hj => if_neg (fun q => by have := q.1; omega)
    rw [e 0 (by decide), e 1 (by decide), e 2 (by decide), e 3 (by decide), e 4 (by decide), e 5 (by decide)]
    exact h2 t ht hz
  · rcases hv with ⟨rfl, hv⟩ | ⟨rfl, hv⟩ | ⟨rfl, hv⟩ | ⟨rfl, hv⟩ | ⟨rfl, hv⟩
    · exact ⟨hv, h4, h5, h6, h7, h8, h9⟩
    · exact ⟨h3, hv, h5, h6, h7, h8, h9⟩
    · exact ⟨h3, h4, hv, h6, h7, h8, h9⟩
    · exact ⟨h3, h4, h5, hv, h7, h8, h9⟩
    · exact ⟨h3, h4, h5, h6, Or.inr hv, h8, h9⟩
theorem okB_add {B : Bk} (h : okB B) {c : Cl} (h24 : B.2.length < 24) (hc : c.1 = 1 ∨ c.1 = 2 → btw c.2.2.1 0 9999) : okB (addB B c) := by
  obtain ⟨h1, h2, h3, h4, h5, h6, h7, h8, h9⟩ := h
  refine ⟨h1, h2, h3, h4, h5, h6, h7, by show (B.2 ++ [c]).length ≤ 24; rw [List.length_append]; show B.2.length + 1 ≤ 24; omega, fun d hd => ?_⟩
  rcases List.mem_append.mp hd with hd | hd
  · exact h9 d hd
  · rw [List.mem_singleton.mp hd]; exact hc
theorem okB_row {B : Bk} (h : okB B) {j t : Nat} (hj : 2 ≤ j ∧ j ≤ 5) {v : Int32} (hv : if j = 2 then btw v 1 60 else btw v 0 9999) : okB (setB B j t v) := by
  obtain ⟨h1, h2, h3, h4, h5, h6, h7, h8, h9⟩ := h
  have e6 : ∀ k, (setB B j t v).1 6 k = B.1 6 k := fun k => if_neg (fun q => by have := q.1; omega)
  have eb : bth (setB B j t v) = bth B := e6 0
  refine ⟨by rw [eb]; exact h1, fun t' ht hz => ?_, by rw [e6]; exact h3, by rw [e6]; exact h4, by rw [e6]; exact h5, by rw [e6]; exact h6, by rw [e6]; exact h7, h8, h9⟩
  rw [eb] at hz
  obtain ⟨a0, a1, a2, a3, a4, a5⟩ := h2 t' ht hz
  have e : ∀ k, (setB B j t v).1 k t' = if k = j ∧ t' = t then v else B.1 k t' := fun k => rfl
  by_cases z : t' = t
  · have : j = 2 ∨ j = 3 ∨ j = 4 ∨ j = 5 := by omega
    rcases this with rfl | rfl | rfl | rfl
    · rw [if_pos rfl] at hv
      rw [e 0, e 1, e 2, e 3, e 4, e 5, if_neg (by omega), if_neg (by omega), if_pos ⟨rfl, z⟩, if_neg (by omega), if_neg (by omega), if_neg (by omega)]
      exact ⟨a0, a1, Or.inr hv, a3, a4, a5⟩
    · rw [if_neg (by decide)] at hv
      rw [e 0, e 1, e 2, e 3, e 4, e 5, if_neg (by omega), if_neg (by omega), if_neg (by omega), if_pos ⟨rfl, z⟩, if_neg (by omega), if_neg (by omega)]
      exact ⟨a0, a1, a2, hv, a4, a5⟩
    · rw [if_neg (by decide)] at hv
      rw [e 0, e 1, e 2, e 3, e 4, e 5, if_neg (by omega), if_neg (by omega), if_neg (by omega), if_neg (by omega), if_pos ⟨rfl, z⟩, if_neg (by omega)]
      exact ⟨a0, a1, a2, a3, hv, a5⟩
    · rw [if_neg (by decide)] at hv
      rw [e 0, e 1, e 2, e 3, e 4, e 5, if_neg (by omega), if_neg (by omega), if_neg (by omega), if_neg (by omega), if_neg (by omega), if_pos ⟨rfl, z⟩]
      exact ⟨a0, a1, a2, a3, a4, hv⟩
  · rw [e 0, e 1, e 2, e 3, e 4, e 5, if_neg (fun q => z q.2), if_neg (fun q => z q.2), if_neg (fun q => z q.2), if_neg (fun q => z q.2), if_neg (fun q => z q.2), if_neg (fun q => z q.2)]
    exact ⟨a0, a1, a2, a3, a4, a5⟩
theorem okB_new {B : Bk} (h : okB B) {t A Bn : Nat} (ht : t < 8) (hA : 1 ≤ A ∧ A ≤ 9999) (hB : Bn ≤ 999) : okB (newT B t A Bn) := by
  obtain ⟨h1, h2, h3, h4, h5, h6, h7, h8, h9⟩ := h
  have e6 : ∀ k, k ≠ 0 → (newT B t A Bn).1 6 k = B.1 6 k := fun k hk => by
    show (if 6 ≤ 5 ∧ k = t then (if 6 = 0 then nI A else if 6 = 1 then nI Bn else if 6 = 2 then -1 else 0) else if 6 = 6 ∧ k = 0 then bth B ||| (1 <<< (nI t &&& 31)) else B.1 6 k) = _
    rw [if_neg (by omega), if_neg (fun q => hk q.2)]
  refine ⟨is8_or h1 (is8_shl ht), fun t' ht' hz => ?_, by rw [e6 _ (by decide)]; exact h3, by rw [e6 _ (by decide)]; exact h4, by rw [e6 _ (by decide)]; exact h5, by rw [e6 _ (by decide)]; exact h6, by rw [e6 _ (by decide)]; exact h7, h8, h9⟩
  have hz' : (zm (bth B) t' || decide (t' = t)) = true := by
    rw [← m_or_shl (by omega) (by omega)]; exact hz
  have e : ∀ k, k ≤ 5 → (newT B t A Bn).1 k t' = if t' = t then (if k = 0 then nI A else if k = 1 then nI Bn else if k = 2 then -1 else 0) else B.1 k t' := fun k hk => by
    show (if k ≤ 5 ∧ t' = t then (if k = 0 then nI A else if k = 1 then nI Bn else if k = 2 then -1 else 0) else if k = 6 ∧ t' = 0 then bth B ||| (1 <<< (nI t &&& 31)) else B.1 k t') = _
    by_cases z : t' = t
    · rw [if_pos ⟨hk, z⟩, if_pos z]
    · rw [if_neg (fun q => z q.2), if_neg (by omega), if_neg z]
  rw [e 0 (by decide), e 1 (by decide), e 2 (by decide), e 3 (by decide), e 4 (by decide), e 5 (by decide)]
  by_cases z : t' = t
  · simp only [if_pos z]
    have z0 : btw (0 : Int32) 0 9999 := by unfold btw; decide
    exact ⟨btw_n (by omega) (by omega) (by omega), btw_n (by omega) (by omega) (by omega), Or.inl rfl, z0, z0, z0⟩
  · simp only [if_neg z]
    rw [decide_eq_false z, Bool.or_false] at hz'
    exact h2 t' ht' hz'
section
variable {X : TK} {m : Nat}
theorem okF_earn (hX : okX X m) {B : Bk} {kd i k : Nat} {x : Int32} {f : Nat × Nat} (h : earnS X B kd x i k = .inl f) (hk : k ≤ 60) : okF f := by
  unfold earnS at h
  cases hn : numS X 0 9999 i with
  | inl g => rw [hn] at h; cases h; exact numS_inl hX hn
  | inr v =>
    obtain ⟨-, -, n3⟩ := num_i hX hn
    rw [hn] at h
    have h' : (match ifS X (i + 1) k with
      | .inl f => (.inl f : BR)
      | .inr q => .inr (q.1, q.2.1, addB B (kd, x, nI v, q.2.2))) = .inl f := h
    cases hi : ifS X (i + 1) k with
    | inl g => rw [hi] at h'; cases h'; exact okF_if hX n3 hi
    | inr q => rw [hi] at h'; cases h'
theorem ok_earn (hX : okX X m) {B : Bk} {kd i k : Nat} {x : Int32} {p : Nat × Nat × Bk} (h : earnS X B kd x i k = .inr p) (hB : okB B) (h24 : B.2.length < 24) : okB p.2.2 ∧ p.2.2.2.length = B.2.length + 1 := by
  unfold earnS at h
  cases hn : numS X 0 9999 i with
  | inl g => rw [hn] at h; cases h
  | inr v =>
    obtain ⟨n1, n2, n3⟩ := num_i hX hn
    rw [hn] at h
    have h' : (match ifS X (i + 1) k with
      | .inl f => (.inl f : BR)
      | .inr q => .inr (q.1, q.2.1, addB B (kd, x, nI v, q.2.2))) = .inr p := h
    cases hi : ifS X (i + 1) k with
    | inl g => rw [hi] at h'; cases h'
    | inr q =>
      rw [hi] at h'; cases h'
      exact ⟨okB_add hB h24 (fun _ => btw_n (by omega) (by omega) (by omega)), by show (B.2 ++ [_]).length = _; rw [List.length_append]; rfl⟩
theorem okF_lt (hX : okX X m) {hm : Int32} {f : Nat × Nat} : ∀ n i x, ltS X hm n i x = .inl f → okF f := by
  intro n
  induction n with
  | zero => intro i x h; cases h
  | succ n ih =>
    intro i x h
    unfold ltS at h
    by_cases y : X.1 i = 30
    · rw [if_pos y] at h
      by_cases z : zm hm (X.2.1 i) = true ∧ zm x (X.2.1 i) = false
      · rw [if_pos z] at h; exact ih _ _ h
      · rw [if_neg z] at h; cases h; exact ⟨by show 5 ≤ 5; decide, hX.2.2.2.2.1 i⟩
    · rw [if_neg y] at h; cases h
theorem okF_ex (hX : okX X m) {t : Nat} {f : Nat × Nat} : ∀ n i sn B, exS X t n i sn B = .inl f → okF f := by
  intro n
  induction n with
  | zero => intro i sn B h; cases h
  | succ n ih =>
    intro i sn B h
    unfold exS at h
    by_cases y : 10 ≤ X.1 i ∧ X.1 i ≤ 13
    · rw [if_pos y] at h
      by_cases z : sn (X.1 i) = true
      · rw [if_pos z] at h; cases h; exact ⟨by show 4 ≤ 5; decide, hX.2.2.2.2.1 i⟩
      · rw [if_neg z] at h
        cases hn : numS X (if X.1 i = 10 then 1 else 0) (if X.1 i = 10 then 60 else 9999) (i + 1) with
        | inl g => rw [hn] at h; cases h; exact numS_inl hX hn
        | inr v => rw [hn] at h; exact ih (i + 2) (fun q => sn q || q == X.1 i) (setB B (X.1 i - 8) t (nI v)) h
    · rw [if_neg y] at h; cases h
theorem ok_ex (hX : okX X m) {t : Nat} : ∀ n i sn B p, exS X t n i sn B = .inr p → okB B → okB p.2 := by
  intro n
  induction n with
  | zero => intro i sn B p h hB; cases h; exact hB
  | succ n ih =>
    intro i sn B p h hB
    unfold exS at h
    by_cases y : 10 ≤ X.1 i ∧ X.1 i ≤ 13
    · rw [if_pos y] at h
      by_cases z : sn (X.1 i) = true
      · rw [if_pos z] at h; cases h
      · rw [if_neg z] at h
        cases hn : numS X (if X.1 i = 10 then 1 else 0) (if X.1 i = 10 then 60 else 9999) (i + 1) with
        | inl g => rw [hn] at h; cases h
        | inr v =>
          obtain ⟨n1, n2, -⟩ := num_i hX hn
          rw [hn] at h
          refine ih (i + 2) (fun q => sn q || q == X.1 i) (setB B (X.1 i - 8) t (nI v)) p h (okB_row hB (by omega) ?_)
          by_cases w : X.1 i = 10
          · rw [if_pos w] at n1 n2
            rw [if_pos (by omega)]; exact btw_n (by omega) (by omega) (by omega)
          · rw [if_neg w] at n1 n2
            rw [if_neg (by omega)]; exact btw_n (by omega) (by omega) (by omega)
    · rw [if_neg y] at h; cases h; exact hB
theorem len_add {B : Bk} {c : Cl} : (addB B c).2.length = B.2.length + 1 := by
  show (B.2 ++ [c]).length = _
  rw [List.length_append]; rfl
theorem bc_once (hX : okX X m) {B : Bk} {low top fld idx i k : Nat} (hf : 1 ≤ fld ∧ fld ≤ 5) (hi : 3 ≤ idx) (hr : fld = 1 ∧ low = 1 ∧ top = 60 ∨ fld = 2 ∧ low = 0 ∧ top = 9999 ∨ fld = 3 ∧ low = 0 ∧ top = 1000) : (∀ f, onceS X B low top fld idx i k = .inl f → okF f) ∧ ∀ p, onceS X B low top fld idx i k = .inr p → okB B → B.2.length < 24 → okB p.2.2 ∧ p.2.2.2.length = B.2.length + 1 := by
  unfold onceS
  cases hn : numS X low top i with
  | inl g => exact ⟨(fun f h => by cases h; exact numS_inl hX hn), fun p h => by cases h⟩
  | inr v =>
    obtain ⟨n1, n2, -⟩ := num_i hX hn
    refine ⟨(fun f h => by cases h), fun p h hB h24 => ?_⟩
    cases h
    refine ⟨okB_add (okB_f hB hf ?_) h24 (fun q => by have q' : idx = 1 ∨ idx = 2 := q; omega), len_add⟩
    rcases hr with ⟨a, rfl, rfl⟩ | ⟨a, rfl, rfl⟩ | ⟨a, rfl, rfl⟩
    · exact Or.inl ⟨a, btw_n (by omega) (by omega) (by omega)⟩
    · exact Or.inr (Or.inl ⟨a, btw_n (by omega) (by omega) (by omega)⟩)
    · exact Or.inr (Or.inr (Or.inl ⟨a, btw_n (by omega) (by omega) (by omega)⟩))
end
