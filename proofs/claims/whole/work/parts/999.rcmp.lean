/-! COMPARISONS, by the reference; its stack of what is open -/
section
variable {T : zT} {u : Nat → Nat} {n s m : Nat} {w : Nat → Bool}
theorem tok_41 {p : Nat} (h : (tok u n p).1 = 41 ∨ (tok u n p).1 = 43) : p < n ∧ (u p = 60 ∨ u p = 62) := by
  unfold tok at h
  by_cases a1 : n ≤ p
  · rw [if_pos a1] at h
    have h' : 46 = 41 ∨ 46 = 43 := h
    omega
  · rw [if_neg a1] at h
    by_cases a2 : isDg (u p) = true
    · rw [if_pos a2] at h
      by_cases a3 : rn isDg u n p - p ≤ 5
      · rw [if_pos a3] at h
        have h' : 31 = 41 ∨ 31 = 43 := h
        omega
      · rw [if_neg a3] at h
        have h' : 32 = 41 ∨ 32 = 43 := h
        omega
    · rw [if_neg a2] at h
      by_cases a3 : isLt (u p) = true
      · rw [if_pos a3] at h
        by_cases a4 : rn isLt u n p - p = 1 ∧ u p ≤ 104
        · rw [if_pos a4] at h
          have h' : 30 = 41 ∨ 30 = 43 := h
          omega
        · rw [if_neg a4] at h
          have h' : twd u p (rn isLt u n p - p) = 41 ∨ twd u p (rn isLt u n p - p) = 43 := h
          rcases twd_r (u := u) (i := p) (len := rn isLt u n p - p) with ⟨q, -⟩ | ⟨q, -⟩ <;> omega
      · rw [if_neg a3] at h
        by_cases a4 : (u p = 60 ∨ u p = 62) ∧ p + 1 < n ∧ u (p + 1) = 61
        · exact ⟨by omega, a4.1⟩
        · rw [if_neg a4] at h
          have h' : sgk (u p) = 41 ∨ sgk (u p) = 43 := h
          exfalso
          unfold sgk at h'
          rcases h' with h' | h'
          · repeat' split at h'
            all_goals omega
          · repeat' split at h'
            all_goals omega
/-- the sign of a comparison, as bytes -/
theorem tok_cmp {p : Nat} (hu : ∀ i, i < n → u i ≤ 255) : (40 ≤ (tok u n p).1 ∧ (tok u n p).1 ≤ 44) ↔ p < n ∧ (u p = 60 ∨ u p = 61 ∨ u p = 62) := by
  obtain ⟨s1, s2, s3, s4, s5, s6, s7, s8, s9, s10⟩ := sgk_c (c := u p)
  constructor
  · intro h
    by_cases y : (tok u n p).1 = 41 ∨ (tok u n p).1 = 43
    · obtain ⟨t1, t2⟩ := tok_41 y
      exact ⟨t1, by omega⟩
    · obtain ⟨t1, t2, -, -⟩ := tok_sg (u := u) (n := n) (p := p) (by omega)
      exact ⟨t1, by omega⟩
  · rintro ⟨h1, h2⟩
    rw [tok_c h1 (nd_c (by omega)) (nl_c (by omega))]
    by_cases y : (u p = 60 ∨ u p = 62) ∧ p + 1 < n ∧ u (p + 1) = 61
    · rw [if_pos y]
      show 40 ≤ (if u p = 60 then 41 else 43) ∧ (if u p = 60 then 41 else 43) ≤ 44
      split <;> omega
    · rw [if_neg y]
      show 40 ≤ sgk (u p) ∧ sgk (u p) ≤ 44
      omega
/-- whether a '=' follows -/
def smB (u : Nat → Nat) (n p : Nat) : Bool := decide (¬ u p = 61 ∧ p + 1 < n ∧ u (p + 1) = 61)
theorem tok_cmp2 {p : Nat} (h1 : p < n) (h2 : u p = 60 ∨ u p = 61 ∨ u p = 62) : (tok u n p).2.2 = p + 1 + bN (smB u n p) ∧ rk (tok u n p).1 = (if u p = 61 then 6 else if u p = 60 then (if smB u n p = true then 5 else 4) else (if smB u n p = true then 7 else 8)) ∧ (tok u n p).2.2 ≤ n := by
  rw [tok_c h1 (nd_c (by omega)) (nl_c (by omega))]
  by_cases y : (u p = 60 ∨ u p = 62) ∧ p + 1 < n ∧ u (p + 1) = 61
  · have hs : smB u n p = true := decide_eq_true ⟨by omega, y.2⟩
    rw [if_pos y, hs]
    refine ⟨rfl, ?_, by show p + 2 ≤ n; omega⟩
    rcases y.1 with q | q
    · rw [q]; rfl
    · rw [q]; rfl
  · have hs : smB u n p = false := decide_eq_false (fun q => y ⟨by omega, q.2⟩)
    rw [if_neg y, hs]
    refine ⟨rfl, ?_, by show p + 1 ≤ n; omega⟩
    rcases h2 with q | q | q <;> rw [q] <;> rfl
theorem zb_cg {α β : Type _} {o : Option (α × zS)} {k k' : α → zS → Option β} (h : ∀ a S, k a S = k' a S) : zb o k = zb o k' := by
  have : k = k' := funext (fun a => funext (fun S => h a S))
  rw [this]
theorem b37_eq (hT : iT T) {S : zS} {p : Nat} (h1 : p < n) (h2 : u p = 60 ∨ u p = 61 ∨ u p = 62) (hp : S.1 187 2 = nI p) {S9 : zS} (e9 : fX12_isCounted T 187 (nI p) S = some ((), S9)) (ep9 : S9.1 187 2 = nI p) (ht : txR u n S9) : fX12_compared_b37 T 187 (nI (u p)) S = zb (fX12_sum T 187 (zI (zI S9 187 2 (nI (p + 1))) 187 2 (nI (p + 1 + bN (smB u n p))))) fun _ S16 => zb (fX12_entry T 187 (nI (rk (tok u n p).1)) 0 S16) fun _ S22 => some ((), S22) := by
  have hu := txR_255 ht
  have hn := ht.1
  obtain ⟨-, t2, -⟩ := tok_cmp2 h1 h2
  have ht10 : txR u n (zI S9 187 2 (nI (p + 1))) := txR_P ht oP_z
  have hs10 := r_sign hT ht10 (p := p + 1) (by rw [zI_eqs]) (by omega)
  unfold fX12_compared_b37
  rw [hp, e9, b_q, ep9, n_addL, let_q, hs10, b1_q]
  have b75 : ∀ b : Bool, fX12_compared_b75 T 187 (nI (u p)) (if b = true then 1 else 0) (zI S9 187 2 (nI (p + 1))) = zb (fX12_sum T 187 (zI (zI S9 187 2 (nI (p + 1))) 187 2 (nI (p + 1 + bN b)))) fun _ S16 => zb (fX12_entry T 187 (nI (if u p = 61 then 6 else if u p = 60 then (if b = true then 5 else 4) else (if b = true then 7 else 8))) 0 S16) fun _ S22 => some ((), S22) := by
    intro b
    unfold fX12_compared_b75 fX12_compared_b90 fX12_compared_b139
    rw [zI_eqs]
    have tail : ∀ S16 : zS, (if nI (u p) = 61 then zb (fX12_entry T 187 6 0 S16) fun _ S22 => some ((), S22) else if nI (u p) = 60 then if (if b = true then (1 : Int32) else 0) = 0 then zb (fX12_entry T 187 4 0 S16) fun _ S22 => some ((), S22) else zb (fX12_entry T 187 5 0 S16) fun _ S22 => some ((), S22) else if (if b = true then (1 : Int32) else 0) = 0 then zb (fX12_entry T 187 8 0 S16) fun _ S22 => some ((), S22) else zb (fX12_entry T 187 7 0 S16) fun _ S22 => some ((), S22)) = zb (fX12_entry T 187 (nI (if u p = 61 then 6 else if u p = 60 then (if b = true then 5 else 4) else (if b = true then 7 else 8))) 0 S16) fun _ S22 => some ((), S22) := by
      intro S16
      rcases h2 with q | q | q
      · rw [q]
        cases b <;> rfl
      · rw [q]; rfl
      · rw [q]
        cases b <;> rfl
    cases b with
    | false =>
      rw [if_pos (show (if false = true then (1 : Int32) else 0) = 0 by rw [if_neg (by decide)]), let_q, Int32.add_zero]
      have e0 : nI (p + 1 + bN false) = nI (p + 1) := rfl
      rw [e0]
      exact zb_cg (fun _ S16 => tail S16)
    | true =>
      rw [if_neg (show ¬ (if true = true then (1 : Int32) else 0) = 0 by rw [if_pos rfl]; decide), let_q, n_addL]
      have e0 : nI (p + 1 + bN true) = nI (p + 1 + 1) := rfl
      rw [e0]
      exact zb_cg (fun _ S16 => tail S16)
  rw [t2]
  unfold fX12_compared_b74
  have hch : (chI u n (p + 1) = nI 61) ↔ p + 1 < n ∧ u (p + 1) = 61 := chI_eq hu (by decide)
  by_cases y : u p = 61
  · have hs : smB u n p = false := decide_eq_false (fun q => q.1 y)
    rw [if_pos (show nI (u p) = 61 by rw [y]; rfl), hs]
    exact b75 false
  · rw [if_neg (show ¬ nI (u p) = 61 by rw [show (61 : Int32) = nI 61 from rfl, n_eq (by have := hu p h1; omega) (by omega)]; exact y)]
    by_cases z : p + 1 < n ∧ u (p + 1) = 61
    · have hs : smB u n p = true := decide_eq_true ⟨y, z⟩
      rw [if_pos (show chI u n (p + 1) = 61 from hch.mpr z), hs]
      exact b75 true
    · have hs : smB u n p = false := decide_eq_false (fun q => z q.2)
      rw [if_neg (show ¬ chI u n (p + 1) = 61 from fun q => z (hch.mp q)), hs]
      exact b75 false
/-- what a comparison does, after a fault -/
theorem pr_b37 (hT : iT T) (hw : okWs w s) {S : zS} {F : Int32} (hF : ¬ F = 0) (h : pfR u n s 0 S F) {p : Nat} (h1 : p < n) (h2 : u p = 60 ∨ u p = 61 ∨ u p = 62) (hp : S.1 187 2 = nI p) : ∃ S', fX12_compared_b37 T 187 (nI (u p)) S = some ((), S') ∧ oS s S S' ∧ pfR u n s 0 S' F := by
  obtain ⟨S9, e9, o9, p9, f9⟩ := pr_counted hF h (p := nI p)
  obtain ⟨t1, -, t3⟩ := tok_cmp2 h1 h2
  have pf10 := pfR_z (pfR_z f9 (p := p + 1) (by omega)) (p := p + 1 + bN (smB u n p)) (by omega)
  obtain ⟨S16, e16, o16, f16⟩ := pr_sum hT hw hF pf10
  rw [b37_eq hT h1 h2 hp e9 (p9.trans hp) f9.1.1, e16, b_q, pr_entry hF f16, b_q]
  exact ⟨S16, rfl, oS_tr o9 (oS_tr (oS_z (by omega)) (oS_tr (oS_z (by omega)) o16)), f16⟩
theorem r_cmp (hT : iT T) (hw : okWs w s) (hn4 : n ≤ 400) (hm : m ≤ n ∧ pl u n m = n ∧ ∀ i, i < m → pl u n i < n) {S : zS} {i e k : Nat} (h : stR u n s m S i e k) (h1 : 1 ≤ i) (hk : k ≤ 60) (he : 3 * e ≤ 6 * k + 400) : ∃ S', fX12_compared T 187 S = some ((), S') ∧ resT u n s m S e (cmpS (tkX u n w) i k) S' := by
  have hX := tkX_ok (w := w) hn4 (by rcases hw with ⟨-, q⟩ | ⟨-, q⟩ <;> simp [q]) hm
  obtain ⟨S3, e3, o3, r3⟩ := r_sum hT hw hn4 hm h hk he
  unfold fX12_compared cmpS
  rw [e3, b_q]
  cases hv : sumS (tkX u n w) i k with
  | inl f =>
    rw [hv] at r3
    have hF := flt_ok (okF_sum hX hv)
    obtain ⟨c1, ⟨p, hp, ep⟩, f3⟩ := id r3
    have hu := txR_255 c1.1
    rw [r_sign hT c1.1 ep (by omega), b1_q]
    by_cases y : p < n ∧ (u p = 60 ∨ u p = 61 ∨ u p = 62)
    · obtain ⟨S4, e4, o4, p4⟩ := pr_b37 hT hw hF r3 y.1 y.2 ep
      have ec : chI u n p = nI (u p) := if_pos y.1
      have hup := hu p y.1
      rw [ec, e4]
      have : ∀ {α : Type} (A B : Option α), (if nI (u p) = 60 then A else if nI (u p) = 61 then A else if nI (u p) = 62 then A else B) = A := by
        intro α A B
        rcases y.2 with q | q | q
        · rw [if_pos (by rw [q]; rfl)]
        · rw [if_neg (show ¬ nI (u p) = 60 by rw [q]; decide), if_pos (show nI (u p) = 61 by rw [q]; rfl)]
        · rw [if_neg (show ¬ nI (u p) = 60 by rw [q]; decide), if_neg (show ¬ nI (u p) = 61 by rw [q]; decide), if_pos (show nI (u p) = 62 by rw [q]; rfl)]
      rw [this]
      exact ⟨S4, rfl, oS_tr o3 o4, p4⟩
    · have n60 : ¬ chI u n p = 60 := fun q => y (by have := (chI_eq (c := 60) hu (by decide)).mp q; exact ⟨this.1, Or.inl this.2⟩)
      have n61 : ¬ chI u n p = 61 := fun q => y (by have := (chI_eq (c := 61) hu (by decide)).mp q; exact ⟨this.1, Or.inr (Or.inl this.2)⟩)
      have n62 : ¬ chI u n p = 62 := fun q => y (by have := (chI_eq (c := 62) hu (by decide)).mp q; exact ⟨this.1, Or.inr (Or.inr this.2)⟩)
      rw [if_neg n60, if_neg n61, if_neg n62, pr_fails hF r3, b_q]
      exact ⟨S3, rfl, o3, r3⟩
  | inr q =>
    obtain ⟨j, k1, c1⟩ := q
    obtain ⟨g1, g2, g3, g4, g5, g6, g7, g8⟩ := gS_sum hX h1 h.2.1 hv
    rw [hv] at r3
    obtain ⟨s3, p3, w3⟩ := r3
    have s3' : stR u n s m S3 j (e + c1.length) k1 := s3
    have p3' : S3.1 187 2 = nI (pl u n j) := p3
    have hu := txR_255 s3'.1.1
    have hple := pl_le (u := u) (n := n) j
    have htc := tok_cmp (p := pl u n j) hu
    have eK : (tkX u n w).1 j = (tok u n (pl u n j)).1 := rfl
    rw [r_sign hT s3'.1.1 p3' (by omega), b1_q]
    show ∃ S', _ ∧ resT u n s m S e (if 40 ≤ (tkX u n w).1 j ∧ (tkX u n w).1 j ≤ 44 then (if 60 ≤ k1 then .inl (3, (tkX u n w).2.2.1 j) else prB (sumS (tkX u n w) (j + 1) (k1 + 1)) (fun j2 k2 c2 => .inr (j2, k2, c1 ++ (c2 ++ [((tkX u n w).1 j, 0)])))) else .inl (0, (tkX u n w).2.2.1 j)) S'
    rw [eK]
    by_cases y : pl u n j < n ∧ (u (pl u n j) = 60 ∨ u (pl u n j) = 61 ∨ u (pl u n j) = 62)
    · have hup := hu _ y.1
      have ec : chI u n (pl u n j) = nI (u (pl u n j)) := if_pos y.1
      have this : ∀ {α : Type} (A B : Option α), (if nI (u (pl u n j)) = 60 then A else if nI (u (pl u n j)) = 61 then A else if nI (u (pl u n j)) = 62 then A else B) = A := by
        intro α A B
        rcases y.2 with q | q | q
        · rw [if_pos (by rw [q]; rfl)]
        · rw [if_neg (show ¬ nI (u (pl u n j)) = 60 by rw [q]; decide), if_pos (show nI (u (pl u n j)) = 61 by rw [q]; rfl)]
        · rw [if_neg (show ¬ nI (u (pl u n j)) = 60 by rw [q]; decide), if_neg (show ¬ nI (u (pl u n j)) = 61 by rw [q]; decide), if_pos (show nI (u (pl u n j)) = 62 by rw [q]; rfl)]
      rw [ec, this, if_pos (htc.mpr y)]
      have hjm := i_lt hm y.1
      obtain ⟨t1, t2, t3⟩ := tok_cmp2 y.1 y.2
      obtain ⟨S9, e9, a1, a2, a3, a4⟩ := r_counted0 (T := T) s3'.2.2.2.1 s3'.2.2.2.2.2 g4 (p := pl u n j)
      have o9 : oS s S3 S9 := ⟨a1, fun a b z _ => a2 a b (by omega)⟩
      have ct9 := ctR_o s3'.1 o9
      have ep9 : S9.1 187 2 = nI (pl u n j) := by rw [a2 _ _ (by omega)]; exact p3'
      rw [b37_eq hT y.1 y.2 p3' e9 ep9 ct9.1]
      by_cases z : 60 ≤ k1
      · rw [if_pos z] at a4 ⊢
        have hF : ¬ flt (3, pl u n j) = 0 := flt_0 (by show pl u n j ≤ 400; omega) (by show 3 ≤ 7; decide)
        have f9 : pfR u n s 0 S9 (flt (3, pl u n j)) := ⟨ct9, ⟨_, by omega, ep9⟩, a4⟩
        have pf10 := pfR_z (pfR_z f9 (p := pl u n j + 1) (by omega)) (p := pl u n j + 1 + bN (smB u n (pl u n j))) (by omega)
        obtain ⟨S16, e16, o16, f16⟩ := pr_sum hT hw hF pf10
        rw [e16, b_q, pr_entry hF f16, b_q]
        exact ⟨S16, rfl, oS_tr o3 (oS_tr o9 (oS_tr (oS_z (by omega)) (oS_tr (oS_z (by omega)) o16))), f16⟩
      · rw [if_neg z] at a4 ⊢
        have st10 : stR u n s m (zI (zI S9 187 2 (nI (pl u n j + 1))) 187 2 (nI (pl u n j + 1 + bN (smB u n (pl u n j))))) (j + 1) (e + c1.length) (k1 + 1) := by
          refine ⟨ctR_z (ctR_z ct9 (Or.inl rfl)) (Or.inl rfl), hjm, ⟨(tok u n (pl u n j)).2.2, t3, by rw [zI_eqs, t1], rfl⟩, ?_, ?_, ?_⟩
          · rw [zI_eqn (by decide), zI_eqn (by decide)]; exact a4
          · rw [zI_eqn (by decide), zI_eqn (by decide), a2 _ _ (by omega)]; exact s3'.2.2.2.2.1
          · rw [zI_eqn (by decide), zI_eqn (by decide)]; exact a3
        obtain ⟨S16, e16, o16, r16⟩ := r_sum hT hw hn4 hm st10 (by omega) (by omega)
        have ov := oS_tr o3 (oS_tr o9 (oS_tr (oS_z (s := s) (b := 2) (by omega) (x := nI (pl u n j + 1))) (oS_tr (oS_z (s := s) (b := 2) (by omega) (x := nI (pl u n j + 1 + bN (smB u n (pl u n j))))) o16)))
        rw [e16, b_q]
        cases hv2 : sumS (tkX u n w) (j + 1) (k1 + 1) with
        | inl f =>
          rw [hv2] at r16
          rw [pr_entry (flt_ok (okF_sum hX hv2)) r16, b_q]
          exact ⟨S16, rfl, ov, r16⟩
        | inr q =>
          obtain ⟨j2, k2, c2⟩ := q
          obtain ⟨f1, f2, f3, f4, f5, f6, f7, f8⟩ := gS_sum hX (by omega) (by omega) hv2
          rw [hv2] at r16
          obtain ⟨s16, p16, w16⟩ := r16
          have s16' : stR u n s m S16 j2 (e + c1.length + c2.length) k2 := s16
          have hop := htc.mpr y
          obtain ⟨S17, e17, o17, b17, c17, w17⟩ := r_entry0 hT s16'.1 s16'.2.2.2.1 s16'.2.2.2.2.1 (by omega) (p := ((tok u n (pl u n j)).1, 0)) (x := nI (rk (tok u n (pl u n j)).1)) (y := 0) rfl (fun q => by have q' : (tok u n (pl u n j)).1 = 31 := q; omega) (fun q => by have q' : (tok u n (pl u n j)).1 = 47 := q; omega)
          have hlen : e + (c1 ++ (c2 ++ [((tok u n (pl u n j)).1, 0)])).length = e + c1.length + c2.length + 1 := by
            rw [List.length_append, List.length_append]; show e + (_ + (_ + 1)) = _; omega
          rw [e17, b_q]
          have wz : wrR s (zI (zI S9 187 2 (nI (pl u n j + 1))) 187 2 (nI (pl u n j + 1 + bN (smB u n (pl u n j))))) S16 (e + c1.length) c2 := w16
          have w16' : wrR s S3 S16 (e + c1.length) c2 := wrR_cg0 wz (fun a b q => by rw [zI_ne (by omega), zI_ne (by omega)]; exact a2 a b (by omega))
          refine ⟨S17, rfl, oS_tr ov o17, ⟨ctR_o s16'.1 o17, s16'.2.1, by rw [b17 _ (by decide)]; exact s16'.2.2.1, by rw [b17 _ (by decide)]; exact s16'.2.2.2.1, ?_, by rw [b17 _ (by decide)]; exact s16'.2.2.2.2.2⟩, by rw [b17 _ (by decide)]; exact p16, wrR_app w3 (wrR_app w16' w17)⟩
          show S17.1 187 6 = nI (e + (c1 ++ (c2 ++ [((tok u n (pl u n j)).1, 0)])).length)
          rw [hlen]; exact c17
    · have n60 : ¬ chI u n (pl u n j) = 60 := fun q => y (by have := (chI_eq (c := 60) hu (by decide)).mp q; exact ⟨this.1, Or.inl this.2⟩)
      have n61 : ¬ chI u n (pl u n j) = 61 := fun q => y (by have := (chI_eq (c := 61) hu (by decide)).mp q; exact ⟨this.1, Or.inr (Or.inl this.2)⟩)
      have n62 : ¬ chI u n (pl u n j) = 62 := fun q => y (by have := (chI_eq (c := 62) hu (by decide)).mp q; exact ⟨this.1, Or.inr (Or.inr this.2)⟩)
      have ef : fX12_fails T 187 0 (nI (pl u n j)) S3 = some ((), zI S3 187 3 (flt (0, pl u n j))) := r_fails0 s3'.2.2.2.1 (c := 0)
      rw [if_neg n60, if_neg n61, if_neg n62, p3', ef, b_q, if_neg (fun q => y (htc.mp q))]
      exact ⟨_, rfl, oS_tr o3 (oS_z (by omega)), ctR_z s3'.1 (by omega), ⟨_, by omega, by rw [zI_eqn (by decide)]; exact p3'⟩, by rw [zI_eqs]; rfl⟩
end
