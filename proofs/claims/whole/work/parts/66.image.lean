/-! the reference carries rows to an image, and back -/
/-- m rows (cell, length, how many), from a place of the images on -/
noncomputable def cyL (T : zT) : List (Nat × Nat × Nat) → zS → Option (Unit × zS)
  | [], S => some ((), S)
  | e :: l, S => zb (fX12_carry T 187 e.1 e.2.1 (nI e.2.2) S) fun _ S' => cyL T l S'
def cyN : List (Nat × Nat × Nat) → Nat
  | [] => 0
  | e :: l => e.2.2 + cyN l
def cyA : List (Nat × Nat × Nat) := [(189, 2400, 300), (190, 2400, 300), (191, 8, 1), (192, 192, 24), (193, 192, 24), (194, 192, 24), (196, 192, 24), (197, 192, 24), (199, 16, 8), (200, 16, 8), (201, 16, 8), (202, 16, 8), (203, 16, 8), (204, 16, 8), (205, 16, 8), (206, 2, 1), (207, 2, 1), (208, 2, 1), (209, 2, 1), (210, 2, 1), (213, 60, 60), (214, 60, 60), (215, 60, 60)]
theorem v_carry {T : zT} (hT : iT T) {c n1 m at0 : Nat} {S : zS} (hm : m ≤ n1) (hn : n1 ≤ 2400) (hat : at0 + m ≤ 3920) (h65 : S.1 187 65 = nI at0) (hc : c ≠ 187 ∧ c ≠ 227) (hb : S.1 187 66 = 0 ∨ S.1 187 66 = 1) : ∃ S', fX12_carry T 187 c n1 (nI m) S = some ((), S') ∧ S'.2 = S.2 ∧ S'.1 187 65 = nI (at0 + m) ∧ S'.1 187 66 = S.1 187 66 ∧ (S.1 187 66 = 0 → (∀ j, j < m → S'.1 227 (at0 + j) = S.1 c j) ∧ ∀ a b, ¬ (a = 227 ∧ at0 ≤ b ∧ b < at0 + m) → ¬ (a = 187 ∧ b = 65) → S'.1 a b = S.1 a b) ∧ (S.1 187 66 = 1 → (∀ j, j < m → S'.1 c j = S.1 227 (at0 + j)) ∧ ∀ a b, ¬ (a = c ∧ b < m) → ¬ (a = 187 ∧ b = 65) → S'.1 a b = S.1 a b) := by
  have key : zwp (lp (fun a => fX12_carry_l2 T 187 c n1 (nI m) a.1 a.2) (0, S)) (fun S' => S'.2 = S.2 ∧ S'.1 187 65 = nI (at0 + m) ∧ S'.1 187 66 = S.1 187 66 ∧ (S.1 187 66 = 0 → (∀ j, j < m → S'.1 227 (at0 + j) = S.1 c j) ∧ ∀ a b, ¬ (a = 227 ∧ at0 ≤ b ∧ b < at0 + m) → ¬ (a = 187 ∧ b = 65) → S'.1 a b = S.1 a b) ∧ (S.1 187 66 = 1 → (∀ j, j < m → S'.1 c j = S.1 227 (at0 + j)) ∧ ∀ a b, ¬ (a = c ∧ b < m) → ¬ (a = 187 ∧ b = 65) → S'.1 a b = S.1 a b)) := by
    refine lp_for (I := fun n a => ∃ S', a = (nI n, S') ∧ S'.2 = S.2 ∧ S'.1 187 65 = nI (at0 + n) ∧ S'.1 187 66 = S.1 187 66 ∧ (S.1 187 66 = 0 → (∀ j, j < n → S'.1 227 (at0 + j) = S.1 c j) ∧ ∀ a b, ¬ (a = 227 ∧ at0 ≤ b ∧ b < at0 + n) → ¬ (a = 187 ∧ b = 65) → S'.1 a b = S.1 a b) ∧ (S.1 187 66 = 1 → (∀ j, j < n → S'.1 c j = S.1 227 (at0 + j)) ∧ ∀ a b, ¬ (a = c ∧ b < n) → ¬ (a = 187 ∧ b = 65) → S'.1 a b = S.1 a b)) m ?_ ?_ ?_
    · rintro n a hn' ⟨S', rfl, h1, h2, h3, h4, h5⟩
      left
      show ∃ a', fX12_carry_l2 T 187 c n1 (nI m) (nI n) S' = _ ∧ _
      unfold fX12_carry_l2 fX12_carry_b41
      rw [if_neg (by rw [n_le (by omega) (by omega)]; omega), h2, h3, zT_187_63 hT, g_in (show n < n1 by omega) (by omega), g_in (show at0 + n < 3920 by omega) (by decide), g_in (show at0 + n < 3920 by omega) (by decide), g_in (show n < n1 by omega) (by omega), tn_nI (by omega), tn_nI (by omega)]
      by_cases q : S.1 187 66 = 0
      · rw [if_pos q]
        obtain ⟨g1, g2⟩ := h4 q
        simp only [let_q, n_addL]
        refine ⟨_, rfl, _, rfl, h1, ?_, ?_, fun _ => ⟨fun j hj => ?_, fun a b n1 n2 => ?_⟩, fun q1 => absurd (q.symm.trans q1) (by decide)⟩
        · rw [zI_eqs, zI_ne (by decide), h2, n_addL]; rfl
        · rw [zI_eqn (by decide), zI_ne (by decide)]; exact h3
        · rw [zI_ne (by decide), zI_eq]
          by_cases z : at0 + j = at0 + n
          · rw [if_pos z, show j = n by omega]
            exact g2 c n (by omega) (by omega)
          · rw [if_neg z]; exact g1 j (by omega)
        · rw [zI_o (by omega), zI_o (by omega)]
          exact g2 a b (by omega) n2
      · rw [if_neg q]
        have q1 : S.1 187 66 = 1 := hb.resolve_left q
        obtain ⟨g1, g2⟩ := h5 q1
        simp only [let_q, n_addL]
        refine ⟨_, rfl, _, rfl, h1, ?_, ?_, fun q0 => absurd q0 q, fun _ => ⟨fun j hj => ?_, fun a b n1 n2 => ?_⟩⟩
        · rw [zI_eqs, zI_ne (by omega), h2, n_addL]; rfl
        · rw [zI_eqn (by decide), zI_ne (by omega)]; exact h3
        · rw [zI_ne (by omega), zI_eq]
          by_cases z : j = n
          · rw [if_pos z, z]
            exact g2 227 (at0 + n) (by omega) (by omega)
          · rw [if_neg z]; exact g1 j (by omega)
        · rw [zI_o (by omega), zI_o (by omega)]
          exact g2 a b (by omega) n2
    · rintro a ⟨S', rfl, h1, h2, h3, h4, h5⟩
      refine ⟨S', ?_, h1, h2, h3, h4, h5⟩
      show fX12_carry_l2 T 187 c n1 (nI m) (nI m) S' = _
      unfold fX12_carry_l2
      rw [if_pos (by rw [n_le (by omega) (by omega)]; exact Nat.le_refl _)]
    · exact ⟨S, rfl, rfl, h65, rfl, fun _ => ⟨fun j hj => absurd hj (Nat.not_lt_zero _), fun _ _ _ _ => rfl⟩, fun _ => ⟨fun j hj => absurd hj (Nat.not_lt_zero _), fun _ _ _ _ => rfl⟩⟩
  obtain ⟨S', e, q⟩ := key
  refine ⟨S', ?_, q⟩
  unfold fX12_carry
  rw [e, b1_q]
def cyO (l : List (Nat × Nat × Nat)) : Prop := ∀ e, e ∈ l → e.2.2 ≤ e.2.1 ∧ e.2.1 ≤ 2400 ∧ e.1 ≠ 187 ∧ e.1 ≠ 227
theorem cyL_im {T : zT} (hT : iT T) : ∀ (l : List (Nat × Nat × Nat)) (at0 : Nat) (S : zS), cyO l → at0 + cyN l ≤ 3920 → S.1 187 65 = nI at0 → S.1 187 66 = 0 → ∃ S', cyL T l S = some ((), S') ∧ S'.2 = S.2 ∧ (∀ a b, ¬ (a = 227 ∧ at0 ≤ b ∧ b < at0 + cyN l) → ¬ (a = 187 ∧ b = 65) → S'.1 a b = S.1 a b) ∧ ∀ pre e post, l = pre ++ e :: post → ∀ j, j < e.2.2 → S'.1 227 (at0 + cyN pre + j) = S.1 e.1 j := by
  intro l
  induction l with
  | nil =>
    intro at0 S _ _ _ _
    refine ⟨S, rfl, rfl, fun _ _ _ _ => rfl, fun pre e post h => ?_⟩
    cases pre <;> cases h
  | cons e l ih =>
    intro at0 S ho hat h65 h66
    have hat' : at0 + (e.2.2 + cyN l) ≤ 3920 := hat
    obtain ⟨o1, o2, o3, o4⟩ := ho e (List.mem_cons_self ..)
    obtain ⟨S1, e1, f1, f2, f3, f4, -⟩ := v_carry hT o1 o2 (show at0 + e.2.2 ≤ 3920 by omega) h65 ⟨o3, o4⟩ (Or.inl h66)
    obtain ⟨g1, g2⟩ := f4 h66
    obtain ⟨S', e2, k1, k2, k3⟩ := ih (at0 + e.2.2) S1 (fun x hx => ho x (List.mem_cons_of_mem _ hx)) (by omega) f2 (f3.trans h66)
    have hcy : cyN (e :: l) = e.2.2 + cyN l := rfl
    refine ⟨S', ?_, k1.trans f1, fun a b n1 n2 => ?_, fun pre e' post h j hj => ?_⟩
    · show (zb (fX12_carry T 187 e.1 e.2.1 (nI e.2.2) S) fun _ S' => cyL T l S') = _
      rw [e1, b_q]; exact e2
    · rw [hcy] at n1
      rw [k2 a b (by omega) n2]
      exact g2 a b (by omega) n2
    · cases pre with
      | nil =>
        cases h
        rw [k2 227 _ (by show ¬ (227 = 227 ∧ at0 + e.2.2 ≤ at0 + 0 + j ∧ _); omega) (by omega)]
        exact g1 j hj
      | cons x pre =>
        cases h
        have := k3 pre e' post rfl j hj
        have hx : cyN (e :: pre) = e.2.2 + cyN pre := rfl
        rw [hx, ← Nat.add_assoc, this]
        have hm := ho e' (List.mem_cons_of_mem _ (List.mem_append_right _ (List.mem_cons_self ..)))
        exact g2 _ _ (fun z => hm.2.2.2 z.1) (fun z => hm.2.2.1 z.1)
theorem cyL_bk {T : zT} (hT : iT T) : ∀ (l : List (Nat × Nat × Nat)) (at0 : Nat) (S : zS), cyO l → l.Pairwise (fun x y => x.1 ≠ y.1) → at0 + cyN l ≤ 3920 → S.1 187 65 = nI at0 → S.1 187 66 = 1 → ∃ S', cyL T l S = some ((), S') ∧ S'.2 = S.2 ∧ (∀ a b, (∀ e, e ∈ l → ¬ (a = e.1 ∧ b < e.2.2)) → ¬ (a = 187 ∧ b = 65) → S'.1 a b = S.1 a b) ∧ ∀ pre e post, l = pre ++ e :: post → ∀ j, j < e.2.2 → S'.1 e.1 j = S.1 227 (at0 + cyN pre + j) := by
  intro l
  induction l with
  | nil =>
    intro at0 S _ _ _ _ _
    refine ⟨S, rfl, rfl, fun _ _ _ _ => rfl, fun pre e post h => ?_⟩
    cases pre <;> cases h
  | cons e l ih =>
    intro at0 S ho hp hat h65 h66
    have hat' : at0 + (e.2.2 + cyN l) ≤ 3920 := hat
    obtain ⟨o1, o2, o3, o4⟩ := ho e (List.mem_cons_self ..)
    obtain ⟨S1, e1, f1, f2, f3, -, f5⟩ := v_carry hT o1 o2 (show at0 + e.2.2 ≤ 3920 by omega) h65 ⟨o3, o4⟩ (Or.inr h66)
    obtain ⟨g1, g2⟩ := f5 h66
    obtain ⟨hp1, hp2⟩ := List.pairwise_cons.mp hp
    obtain ⟨S', e2, k1, k2, k3⟩ := ih (at0 + e.2.2) S1 (fun x hx => ho x (List.mem_cons_of_mem _ hx)) hp2 (by omega) f2 (f3.trans h66)
    refine ⟨S', ?_, k1.trans f1, fun a b n1 n2 => ?_, fun pre e' post h j hj => ?_⟩
    · show (zb (fX12_carry T 187 e.1 e.2.1 (nI e.2.2) S) fun _ S' => cyL T l S') = _
      rw [e1, b_q]; exact e2
    · rw [k2 a b (fun x hx => n1 x (List.mem_cons_of_mem _ hx)) n2]
      exact g2 a b (n1 e (List.mem_cons_self ..)) n2
    · cases pre with
      | nil =>
        cases h
        rw [k2 e.1 j (fun x hx z => hp1 x hx z.1) (fun z => o3 z.1)]
        exact g1 j hj
      | cons x pre =>
        cases h
        rw [k3 pre e' post rfl j hj]
        have hx : cyN (e :: pre) = e.2.2 + cyN pre := rfl
        rw [hx, ← Nat.add_assoc]
        exact g2 _ _ (fun z => o4 z.1.symm) (by omega)
theorem cyA_o : cyO cyA := by
  intro e he
  have : ∀ e, e ∈ cyA → e.2.2 ≤ e.2.1 ∧ e.2.1 ≤ 2400 ∧ e.1 ≠ 187 ∧ e.1 ≠ 227 := by decide
  exact this e he
theorem cyA_p : cyA.Pairwise (fun x y => x.1 ≠ y.1) := by decide
theorem cyA_n : cyN cyA = 962 := by decide
/-- the rows of a book and a row of acts, each in its place -/
theorem cyA_at {a b : Nat} (h : b < rN a ∨ 213 ≤ a ∧ a ≤ 215 ∧ b < 60) : ∃ pre e post, cyA = pre ++ e :: post ∧ e.1 = a ∧ b < e.2.2 ∧ 1 + cyN pre = iof a := by
  have hs : ∀ i, i < 23 → cyA = cyA.take i ++ (cyA.getD i (0, 0, 0)) :: cyA.drop (i + 1) := by decide
  have hi : ∃ i, i < 23 ∧ (cyA.getD i (0, 0, 0)).1 = a ∧ b < (cyA.getD i (0, 0, 0)).2.2 ∧ 1 + cyN (cyA.take i) = iof a := by
    have key : ∀ a, 189 ≤ a → a ≤ 215 → ∃ i, i < 23 ∧ ((0 < rN a ∨ 213 ≤ a) → (cyA.getD i (0, 0, 0)).1 = a ∧ (rN a ≤ (cyA.getD i (0, 0, 0)).2.2 ∧ (213 ≤ a → 60 ≤ (cyA.getD i (0, 0, 0)).2.2)) ∧ 1 + cyN (cyA.take i) = iof a) := by
      have : ∀ d, d < 27 → ∃ i, i < 23 ∧ ((0 < rN (189 + d) ∨ 213 ≤ 189 + d) → (cyA.getD i (0, 0, 0)).1 = 189 + d ∧ (rN (189 + d) ≤ (cyA.getD i (0, 0, 0)).2.2 ∧ (213 ≤ 189 + d → 60 ≤ (cyA.getD i (0, 0, 0)).2.2)) ∧ 1 + cyN (cyA.take i) = iof (189 + d)) := by decide
      intro a h1 h2
      obtain ⟨d, rfl⟩ : ∃ d, a = 189 + d := ⟨a - 189, by omega⟩
      exact this d (by omega)
    have ha : 189 ≤ a ∧ a ≤ 215 := by
      rcases h with h | h
      · have := rN_big h; omega
      · omega
    obtain ⟨i, hi, hk⟩ := key a ha.1 ha.2
    obtain ⟨k1, ⟨k2, k3⟩, k4⟩ := hk (by omega)
    refine ⟨i, hi, k1, ?_, k4⟩
    rcases h with h | h
    · omega
    · have := k3 h.1; omega
  obtain ⟨i, h1, h2, h3, h4⟩ := hi
  exact ⟨_, _, _, hs i h1, h2, h3, h4⟩
