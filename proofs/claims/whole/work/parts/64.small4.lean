theorem zm_im {B : Bk} {x : Int32} {t : Nat} : zm (bth B &&& (x ^^^ (-1))) t = (zm (bth B) t && !zm x t) := m_dif
/-- all others cost so much: in the first n -/
def ndS (B : Bk) (w : Int32) (inn : Int32) : Nat → Int32
  | 0 => 0
  | n + 1 => if zm inn n = true then ndS B w inn n + (B.1 0 n + B.1 1 n * w) else ndS B w inn n
theorem ok30 : oK30 invTS := by
  rintro T S ⟨hT, hi⟩ x1 x2
  obtain ⟨-, -, -, B, A, ⟨b1, b2, b3, b4, b5, b6⟩, -⟩ := id hi
  unfold fX11_needed fX12_needed fX11_needed_b18 fX12_needed_b15
  rw [zT_0_3 hT, c_hasAll b3, b1_q, r_isSet hT b1 b4, b1_q, v_isTellable, b1_q, v_isWeek, b1_q, bkC_th b3]
  have ein : (bth B &&& (x1 ^^^ (-1))) = mi (bth B) x1 := rfl
  rw [ein]
  by_cases q1 : mi x1 (bth B) = 0
  · rw [if_pos q1, if_neg n10, if_neg n10]
    have i1 := sub_is8 b1 q1
    by_cases q2 : 0 ≤ x2.toInt ∧ x2.toInt ≤ 60
    · rw [if_pos q2, if_neg n10, if_neg n10, let_q]
      obtain ⟨p, e1, ip, hp⟩ := v_lostBy hT (w := x2) (S := S)
      rw [e1, b1_q]
      have hpt : ∀ t, t < 8 → (zm (mi (bth B) x1) t = true ∧ zm p t = true ↔ zm (mi (bth B) x1) t = true ∧ ¬ S.1 202 t = -1 ∧ S.1 202 t ≤ x2) := by
        intro t ht
        refine and_congr_right (fun hz => ?_)
        have hth : zm (bth B) t = true := by
          rw [show zm (mi (bth B) x1) t = (zm (bth B) t && !zm x1 t) from m_dif] at hz
          cases z : zm (bth B) t <;> simp_all
        rw [hp t ht, bkC_th b3, show S.1 10 t = B.1 2 t from b3.2.1 t ht hth 2 (by decide), show S.1 202 t = B.1 2 t from b4.2.1 t ht 2 (by decide)]
        exact ⟨fun z => z.2, fun z => ⟨hth, z⟩⟩
      -- the reference's step
      have s2 : ∀ (n : Nat) (x : Int32), n < 8 → fX12_needed_l22 T 187 x1 x2 S x (nI n) = if zm (mi (bth B) x1) n = true then if ¬ S.1 202 n = -1 ∧ S.1 202 n ≤ x2 then some (.inr (.inr ())) else some (.inl (x + (B.1 0 n + B.1 1 n * x2), nI (n + 1))) else some (.inl (x, nI (n + 1))) := by
        intro n x hn
        unfold fX12_needed_l22 fX12_needed_b74 fX12_needed_b84
        rw [if_neg (by rw [n_leL (by omega) (by omega)]; omega), g_in (by omega) (by decide), zT_187_22 hT, tn_nI (by omega), b4.1 n hn]
        simp only [r_firstOwed hT b4 hn, b1_q, let_q, n_addL, g_in (show n < 16 by omega) (show 16 < 2147483648 by decide), zT_187_25 hT, tn_nI (show n < 2147483648 by omega)]
        rw [show zm (mi (bth B) x1) n = (zm (bth B) n && !zm x1 n) from m_dif]
        cases z1 : zm (bth B) n with
        | false => rw [if_neg (show ¬ (if false = true then (1 : Int32) else 0) = 1 by decide), if_neg (show ¬ (false && !zm x1 n) = true by simp)]
        | true =>
          rw [if_pos (show (if true = true then (1 : Int32) else 0) = 1 by decide)]
          cases z2 : zm x1 n with
          | true => rw [if_neg (fun z => by rw [m_sh0 (by omega), z2] at z; cases z), if_neg (show ¬ (true && !true) = true by decide)]
          | false =>
            rw [if_pos ((m_sh0 (by omega)).mpr z2), if_pos (show (true && !false) = true by decide)]
            by_cases z3 : S.1 202 n = -1
            · rw [if_pos z3, if_neg (fun z => z.1 z3)]
            · rw [if_neg z3]
              by_cases z4 : x2 < S.1 202 n
              · rw [if_pos z4, if_neg (fun z => by have a := z_lt.mp z4; have b := z_le.mp z.2; omega)]
              · rw [if_neg z4, if_pos ⟨z3, z_nlt z4⟩]
      by_cases q3 : mi (bth B) x1 &&& p = 0
      · rw [if_pos q3]
        have hno : ∀ t, t < 8 → zm (mi (bth B) x1) t = true → ¬ (¬ S.1 202 t = -1 ∧ S.1 202 t ≤ x2) := by
          intro t ht hz hl
          have h2 := (hpt t ht).mpr ⟨hz, hl⟩
          have : zm (mi (bth B) x1 &&& p) t = true := by rw [m_and, h2.1, h2.2]; rfl
          rw [q3, m_0] at this; cases this
        have l1 : lp (fun a => fX11_needed_l54 T 0 x2 (mi (bth B) x1) S a.1 a.2) (0, 0) = some (ndS B x2 (mi (bth B) x1) 8) := by
          refine lp_steps (f := fun a => fX11_needed_l54 T 0 x2 (mi (bth B) x1) S a.1 a.2) (fun n => (ndS B x2 (mi (bth B) x1) n, nI n)) 8 _ (fun n hn => ?_) ?_
          · show fX11_needed_l54 T 0 x2 (mi (bth B) x1) S (ndS B x2 (mi (bth B) x1) n) (nI n) = some (.inl (if zm (mi (bth B) x1) n = true then ndS B x2 (mi (bth B) x1) n + (B.1 0 n + B.1 1 n * x2) else ndS B x2 (mi (bth B) x1) n, nI (n + 1)))
            unfold fX11_needed_l54 fX11_needed_b85
            rw [if_neg (by rw [n_leL (by omega) (by omega)]; omega), zT_0_3 hT]
            cases z : zm (mi (bth B) x1) n with
            | false => rw [if_pos ((m_sh0 (by omega)).mpr z), if_neg (by decide), let_q, n_addL]
            | true =>
              have hth : zm (bth B) n = true := by
                rw [show zm (mi (bth B) x1) n = (zm (bth B) n && !zm x1 n) from m_dif] at z
                cases y : zm (bth B) n <;> simp_all
              rw [if_neg (fun y => by rw [m_sh0 (by omega), z] at y; cases y), if_pos rfl, c_firstOwed hT b3 hn hth, b1_q, let_q, let_q, n_addL]
          · show fX11_needed_l54 T 0 x2 (mi (bth B) x1) S (ndS B x2 (mi (bth B) x1) 8) (nI 8) = _
            unfold fX11_needed_l54
            exact if_pos (show (8 : Int32) ≤ nI 8 by decide)
        have l2 : lp (fun a => fX12_needed_l22 T 187 x1 x2 S a.1 a.2) (0, 0) = some (.inl (ndS B x2 (mi (bth B) x1) 8)) := by
          refine lp_steps (f := fun a => fX12_needed_l22 T 187 x1 x2 S a.1 a.2) (fun n => (ndS B x2 (mi (bth B) x1) n, nI n)) 8 _ (fun n hn => ?_) ?_
          · show fX12_needed_l22 T 187 x1 x2 S (ndS B x2 (mi (bth B) x1) n) (nI n) = some (.inl (if zm (mi (bth B) x1) n = true then ndS B x2 (mi (bth B) x1) n + (B.1 0 n + B.1 1 n * x2) else ndS B x2 (mi (bth B) x1) n, nI (n + 1)))
            rw [s2 n _ hn]
            by_cases z : zm (mi (bth B) x1) n = true
            · rw [if_pos z, if_neg (hno n hn z), if_pos z]
            · rw [if_neg z, if_neg z]
          · show fX12_needed_l22 T 187 x1 x2 S (ndS B x2 (mi (bth B) x1) 8) (nI 8) = _
            unfold fX12_needed_l22
            exact if_pos (show (8 : Int32) ≤ nI 8 by decide)
        rw [l1, l2, b1_q, b1_q]
        exact ⟨_, rfl, rfl, hT, hi⟩
      · rw [if_neg q3]
        -- one of them is lost
        have hex : ∃ t, t < 8 ∧ zm (mi (bth B) x1) t = true ∧ (¬ S.1 202 t = -1 ∧ S.1 202 t ≤ x2) := by
          apply Classical.byContradiction
          intro hne
          apply q3
          refine is8_ext (is8_and (is8_and b1.1)) is8_0 (fun t ht => ?_)
          rw [m_and, m_0]
          cases z1 : zm (mi (bth B) x1) t <;> cases z2 : zm p t <;> simp
          exact hne ⟨t, ht, z1, ((hpt t ht).mp ⟨z1, z2⟩).2⟩
        have l2 : zwp (lp (fun a => fX12_needed_l22 T 187 x1 x2 S a.1 a.2) (0, 0)) (fun r => r = .inr ()) := by
          refine lp_for (I := fun n a => ∃ x, a = (x, nI n) ∧ ∀ t, t < n → ¬ (zm (mi (bth B) x1) t = true ∧ (¬ S.1 202 t = -1 ∧ S.1 202 t ≤ x2))) 8 ?_ ?_ ?_
          · rintro n a hn ⟨x, rfl, hx⟩
            show (∃ a', fX12_needed_l22 T 187 x1 x2 S x (nI n) = _ ∧ _) ∨ ∃ r, fX12_needed_l22 T 187 x1 x2 S x (nI n) = _ ∧ _
            rw [s2 n x hn]
            by_cases z : zm (mi (bth B) x1) n = true
            · rw [if_pos z]
              by_cases y : ¬ S.1 202 n = -1 ∧ S.1 202 n ≤ x2
              · rw [if_pos y]; exact Or.inr ⟨_, rfl, rfl⟩
              · rw [if_neg y]
                refine Or.inl ⟨_, rfl, _, rfl, fun t ht => ?_⟩
                by_cases e : t = n
                · subst e; exact fun v => y v.2
                · exact hx t (by omega)
            · rw [if_neg z]
              refine Or.inl ⟨_, rfl, _, rfl, fun t ht => ?_⟩
              by_cases e : t = n
              · subst e; exact fun v => z v.1
              · exact hx t (by omega)
          · rintro a ⟨x, rfl, hx⟩
            obtain ⟨t, ht, h2⟩ := hex
            exact absurd h2 (hx t ht)
          · exact ⟨0, rfl, fun t ht => absurd ht (Nat.not_lt_zero _)⟩
        obtain ⟨r, e, rfl⟩ := l2
        rw [e, b1_q]
        exact ⟨_, rfl, rfl, hT, hi⟩
    · rw [if_neg q2, if_pos rfl, if_pos rfl]
      exact ⟨_, rfl, rfl, hT, hi⟩
  · rw [if_neg q1, if_pos rfl, if_pos rfl]
    exact ⟨_, rfl, rfl, hT, hi⟩
theorem pays_loop {T : zT} (hT : iT T) {B : Bk} (hB : okB B) {t : Nat} (ht : t < 8) {x2 x3 : Int32} (i2 : is8 x2) (hz : zm x2 t = true) (hth : zm (bth B) t = true) : ∀ (m k : Nat) (s : Int32) (Sc Sr : zS), k + m = 200 → bkC Sc 7 B → bkR Sr.1 B → ∃ (e : zS ⊕ (Int32 × zS)) (e' : zS ⊕ (Int32 × zS)), lp (fun a => fX11_pays_l74 T 0 x2 x3 (bth B &&& (x2 ^^^ (-1))) (1 <<< (nI t &&& 31)) (B.1 0 t + B.1 1 t * x3) a.1 a.2.1 a.2.2) (s, nI (k + 1), Sc) = some e ∧ lp (fun a => fX12_pays_l48 T 187 (nI t) x2 x3 (x2 &&& ((1 <<< (nI t &&& 31)) ^^^ (-1))) a.1 a.2.1 a.2.2) (s, nI k, Sr) = some e' ∧ ((∃ Sc' Sr', e = .inl Sc' ∧ e' = .inl Sr' ∧ Sc'.1 = Sc.1 ∧ Sr'.1 = Sr.1) ∨ ∃ (j : Nat) (Sc' Sr' : zS), e = .inr (nI (j + 1), Sc') ∧ e' = .inr (nI j, Sr') ∧ Sc'.1 = Sc.1 ∧ Sr'.1 = Sr.1) := by
  intro m
  induction m with
  | zero =>
    intro k s Sc Sr hk hc hr
    refine ⟨.inl Sc, .inl Sr, lp_stop ?_, lp_stop ?_, Or.inl ⟨Sc, Sr, rfl, rfl, rfl, rfl⟩⟩
    · show fX11_pays_l74 T 0 x2 x3 _ _ _ s (nI (k + 1)) Sc = _
      unfold fX11_pays_l74
      rw [if_pos (by rw [n_ltL (by omega) (by omega)]; omega)]
    · show fX12_pays_l48 T 187 (nI t) x2 x3 _ s (nI k) Sr = _
      unfold fX12_pays_l48
      rw [if_pos (by rw [n_leL (by omega) (by omega)]; omega)]
  | succ m ih =>
    intro k s Sc Sr hk hc hr
    have io : is8 (x2 &&& (((1 : Int32) <<< (nI t &&& 31)) ^^^ (-1))) := is8_and i2
    have iu : is8 ((bth B &&& (x2 ^^^ (-1))) ||| ((1 : Int32) <<< (nI t &&& 31))) := is8_or (th_minus hB) (is8_shl ht)
    have eu : (bth B &&& (x2 ^^^ (-1))) ||| ((1 : Int32) <<< (nI t &&& 31)) = bth B &&& ((x2 &&& (((1 : Int32) <<< (nI t &&& 31)) ^^^ (-1))) ^^^ (-1)) := by
      refine is8_ext iu (th_minus hB) (fun u hu => ?_)
      rw [m_dif, m_or, m_dif, m_dif, m_shl8 ht]
      by_cases z : u = t
      · subst z; rw [decide_eq_true rfl, hth]; simp
      · rw [decide_eq_false z]; simp
    have ew : x3 + nI (k + 1) - 1 = x3 + nI k := by
      rw [← n_addL (a := 1) (n := k), ← Int32.add_assoc]
      exact Int32.add_sub_cancel _ _
    obtain ⟨S19, e1, o1⟩ := c_ernE hT (w := x3 + nI k) hc i2 (th_minus hB (x := x2))
    have hc19 : bkC S19 7 B := bkC_cg (fun a b _ _ => by rw [o1]) hc
    obtain ⟨S23, e2, o2⟩ := c_ernE hT (w := x3 + nI k) hc19 io iu
    have hc23 : bkC S23 7 B := bkC_cg (fun a b _ _ => by rw [o2]) hc19
    obtain ⟨S17, e3, o3⟩ := r_ernE hT (w := x3 + nI k) hr i2 (th_minus hB (x := x2))
    have hr17 : bkR S17.1 B := by rw [o3]; exact hr
    obtain ⟨S22, e4, o4⟩ := r_ernE hT (w := x3 + nI k) hr17 io (th_minus hB (x := x2 &&& ((1 <<< (nI t &&& 31)) ^^^ (-1))))
    have hr22 : bkR S22.1 B := by rw [o4]; exact hr17
    rw [eu] at e2
    have s1 : fX11_pays_l74 T 0 x2 x3 (bth B &&& (x2 ^^^ (-1))) (1 <<< (nI t &&& 31)) (B.1 0 t + B.1 1 t * x3) s (nI (k + 1)) Sc = if s + (bern B 1 (x3 + nI k) x2 (bth B &&& (x2 ^^^ (-1))) - bern B 1 (x3 + nI k) (x2 &&& ((1 <<< (nI t &&& 31)) ^^^ (-1))) (bth B &&& ((x2 &&& ((1 <<< (nI t &&& 31)) ^^^ (-1))) ^^^ (-1)))) < B.1 0 t + B.1 1 t * x3 then some (.inl (s + (bern B 1 (x3 + nI k) x2 (bth B &&& (x2 ^^^ (-1))) - bern B 1 (x3 + nI k) (x2 &&& ((1 <<< (nI t &&& 31)) ^^^ (-1))) (bth B &&& ((x2 &&& ((1 <<< (nI t &&& 31)) ^^^ (-1))) ^^^ (-1)))), nI (k + 1 + 1), S23)) else some (.inr (.inr (nI (k + 1), S23))) := by
      unfold fX11_pays_l74
      rw [if_neg (by rw [n_ltL (by omega) (by omega)]; omega), let_q, ew, zT_0_3 hT, zT_0_11 hT, e1, b_q, let_q, eu, e2, b_q, let_q, let_q, n_addL, Int32.sub_eq_add_neg, Int32.add_assoc, ← Int32.sub_eq_add_neg]
    have s2 : fX12_pays_l48 T 187 (nI t) x2 x3 (x2 &&& ((1 <<< (nI t &&& 31)) ^^^ (-1))) s (nI k) Sr = if s + (bern B 1 (x3 + nI k) x2 (bth B &&& (x2 ^^^ (-1))) - bern B 1 (x3 + nI k) (x2 &&& ((1 <<< (nI t &&& 31)) ^^^ (-1))) (bth B &&& ((x2 &&& ((1 <<< (nI t &&& 31)) ^^^ (-1))) ^^^ (-1)))) < B.1 0 t + B.1 1 t * x3 then some (.inl (s + (bern B 1 (x3 + nI k) x2 (bth B &&& (x2 ^^^ (-1))) - bern B 1 (x3 + nI k) (x2 &&& ((1 <<< (nI t &&& 31)) ^^^ (-1))) (bth B &&& ((x2 &&& ((1 <<< (nI t &&& 31)) ^^^ (-1))) ^^^ (-1)))), nI (k + 1), S22)) else some (.inr (.inr (nI k, S22))) := by
      unfold fX12_pays_l48
      rw [if_neg (by rw [n_leL (by omega) (by omega)]; omega), r_all hT hr hB.1, b1_q, e3, b_q, r_all hT hr17 hB.1, b1_q, e4, b_q, let_q, r_firstOwed hT hr22 ht, b1_q, let_q, n_addL]
    generalize s + (bern B 1 (x3 + nI k) x2 (bth B &&& (x2 ^^^ (-1))) - bern B 1 (x3 + nI k) (x2 &&& ((1 <<< (nI t &&& 31)) ^^^ (-1))) (bth B &&& ((x2 &&& ((1 <<< (nI t &&& 31)) ^^^ (-1))) ^^^ (-1)))) = v at s1 s2
    by_cases q : v < B.1 0 t + B.1 1 t * x3
    · rw [if_pos q] at s1 s2
      obtain ⟨e, e', p1, p2, p3⟩ := ih (k + 1) v S23 S22 (by omega) hc23 hr22
      refine ⟨e, e', lp_go s1 p1, lp_go s2 p2, ?_⟩
      rcases p3 with ⟨Sc', Sr', h1, h2, h3, h4⟩ | ⟨j, Sc', Sr', h1, h2, h3, h4⟩
      · exact Or.inl ⟨Sc', Sr', h1, h2, h3.trans (o2.trans o1), h4.trans (o4.trans o3)⟩
      · exact Or.inr ⟨j, Sc', Sr', h1, h2, h3.trans (o2.trans o1), h4.trans (o4.trans o3)⟩
    · rw [if_neg q] at s1 s2
      exact ⟨_, _, lp_stop s1, lp_stop s2, Or.inr ⟨k, S23, S22, rfl, rfl, o2.trans o1, o4.trans o3⟩⟩
theorem ok31 : oK31 invTS := by
  rintro T S ⟨hT, hi⟩ x1 x2 x3
  obtain ⟨-, -, -, B, A, ⟨b1, b2, b3, b4, b5, b6⟩, -⟩ := id hi
  unfold fX11_pays fX12_pays fX11_pays_b37 fX12_pays_b31
  rw [zT_0_3 hT]
  rcases c_has (T := T) b3 x1 with ⟨⟨t, ht, rfl, hz⟩, e1⟩ | ⟨h, e1⟩
  · have e2 : ∀ S1 : zS, bkR S1.1 B → fX12_has T 187 (nI t) S1 = some 1 := by
      intro S1 h1
      rcases r_has hT h1 (nI t) with ⟨h', e2⟩ | ⟨h', e2⟩
      · exact e2
      · exact absurd ⟨t, ht, rfl, hz⟩ h'
    rw [e1, b1_q, if_neg n10, c_hasAll b3, b1_q]
    by_cases q1 : mi x2 (bth B) = 0
    · rw [if_pos q1, if_neg n10, v_isTellable, b1_q]
      have i2 := sub_is8 b1 q1
      by_cases q2 : 0 ≤ x3.toInt ∧ x3.toInt ≤ 60
      · rw [if_pos q2, if_neg n10]
        cases q3 : zm x2 t with
        | false =>
          rw [if_pos ((m_sh0 (by omega)).mpr q3)]
          refine ⟨_, _, _, rfl, ?_, hT, hi⟩
          rw [e2 S b4, b1_q, if_neg n10, r_isSet hT b1 b4, b1_q, if_pos q1, if_neg n10, if_pos ((m_sh0 (by omega)).mpr q3)]
        | true =>
          have n3 : ¬ (x2 >>> (nI t &&& 31)) &&& 1 = 0 := fun z => by rw [m_sh0 (by omega), q3] at z; cases z
          rw [if_neg n3, let_q, let_q, c_firstOwed hT b3 ht hz, b1_q, bkC_th b3]
          obtain ⟨a, f1, f2⟩ := det (oc := lp (fun a => fX11_pays_l74 T 0 x2 x3 (bth B &&& (x2 ^^^ (-1))) (1 <<< (nI t &&& 31)) (B.1 0 t + B.1 1 t * x3) a.1 a.2.1 a.2.2) (0, nI (0 + 1), S)) (P := fun Sr : zS => bkR Sr.1 B) (g := fun Sr => lp (fun a => fX12_pays_l48 T 187 (nI t) x2 x3 (x2 &&& ((1 <<< (nI t &&& 31)) ^^^ (-1))) a.1 a.2.1 a.2.2) (0, nI 0, Sr)) (Q := fun Sr e e' => ((∃ Sc' Sr', e = .inl Sc' ∧ e' = .inl Sr' ∧ Sc'.1 = S.1 ∧ Sr'.1 = Sr.1) ∨ ∃ (j : Nat) (Sc' Sr' : zS), e = .inr (nI (j + 1), Sc') ∧ e' = .inr (nI j, Sr') ∧ Sc'.1 = S.1 ∧ Sr'.1 = Sr.1)) (fun Sr hSr => by
            obtain ⟨e, e', p1, p2, p3⟩ := pays_loop hT b1 ht (x3 := x3) i2 q3 hz 200 0 0 S Sr (by omega) b3 hSr
            exact ⟨e, e', p1, p2, p3⟩) (c0 := S) b4
          have f1' : lp (fun a => fX11_pays_l74 T 0 x2 x3 (bth B &&& (x2 ^^^ (-1))) (1 <<< (nI t &&& 31)) (B.1 0 t + B.1 1 t * x3) a.1 a.2.1 a.2.2) (0, 1, S) = some a := f1
          rw [f1', b1_q]
          obtain ⟨_, _, g0⟩ := f2 S b4
          have ha : (∃ Sc', a = .inl Sc' ∧ Sc'.1 = S.1) ∨ ∃ j Sc', a = .inr (nI (j + 1), Sc') ∧ Sc'.1 = S.1 := by
            rcases g0 with ⟨Sc', -, h1, -, h3, -⟩ | ⟨j, Sc', -, h1, -, h3, -⟩
            · exact Or.inl ⟨Sc', h1, h3⟩
            · exact Or.inr ⟨j, Sc', h1, h3⟩
          have fin : ∀ Sc' : zS, Sc'.1 = S.1 → ∃ e', fX12_pays T 187 (nI t) x2 x3 Sc' = zsm e' (fun e28_0 => some ((-2), e28_0)) (fun e28_1 => some ((e28_1.1 + 1), e28_1.2)) ∧ ((∃ Sc1 Sr', a = .inl Sc1 ∧ e' = .inl Sr' ∧ Sc1.1 = S.1 ∧ Sr'.1 = Sc'.1) ∨ ∃ (j : Nat) (Sc1 Sr' : zS), a = .inr (nI (j + 1), Sc1) ∧ e' = .inr (nI j, Sr') ∧ Sc1.1 = S.1 ∧ Sr'.1 = Sc'.1) := by
            intro Sc' hs
            have b4' : bkR Sc'.1 B := by rw [hs]; exact b4
            obtain ⟨e', g1, g2⟩ := f2 Sc' b4'
            refine ⟨e', ?_, g2⟩
            have g1' : lp (fun a => fX12_pays_l48 T 187 (nI t) x2 x3 (x2 &&& ((1 <<< (nI t &&& 31)) ^^^ (-1))) a.1 a.2.1 a.2.2) (0, 0, Sc') = some e' := g1
            unfold fX12_pays
            rw [e2 Sc' b4', b1_q, if_neg n10, r_isSet hT b1 b4', b1_q, if_pos q1, if_neg n10, if_neg n3, v_isWeek, b1_q, if_pos q2, if_neg n10, let_q, g1', b1_q]
          rcases ha with ⟨Sc', rfl, hs⟩ | ⟨j, Sc', rfl, hs⟩
          · obtain ⟨e', k1, k2⟩ := fin Sc' hs
            rcases k2 with ⟨Sc1, Sr', -, rfl, -, h4⟩ | ⟨j, Sc1, Sr', h1, -⟩
            · refine ⟨-2, Sc', Sr', rfl, ?_, hT, inv_J (h4.trans hs) hi⟩
              have k1' := k1
              unfold fX12_pays fX12_pays_b31 at k1'
              exact k1'
            · cases h1
          · obtain ⟨e', k1, k2⟩ := fin Sc' hs
            rcases k2 with ⟨Sc1, Sr', h1, -⟩ | ⟨j', Sc1, Sr', h1, rfl, -, h4⟩
            · cases h1
            · have hj : nI (j + 1) = nI (j' + 1) ∧ Sc' = Sc1 := by
                have := Sum.inr.inj h1
                exact ⟨congrArg Prod.fst this, congrArg Prod.snd this⟩
              refine ⟨nI (j + 1), Sc', Sr', rfl, ?_, hT, inv_J (h4.trans hs) hi⟩
              have k1' := k1
              unfold fX12_pays fX12_pays_b31 at k1'
              rw [k1', hj.1]
              show some (nI j' + 1, Sr') = _
              rw [n_addL]
      · rw [if_neg q2, if_pos rfl]
        refine ⟨_, _, _, rfl, ?_, hT, hi⟩
        rw [e2 S b4, b1_q, if_neg n10, r_isSet hT b1 b4, b1_q, if_pos q1, if_neg n10]
        by_cases q3 : (x2 >>> (nI t &&& 31)) &&& 1 = 0
        · rw [if_pos q3]
        · rw [if_neg q3, v_isWeek, b1_q, if_neg q2, if_pos rfl]
    · rw [if_neg q1, if_pos rfl]
      refine ⟨_, _, _, rfl, ?_, hT, hi⟩
      rw [e2 S b4, b1_q, if_neg n10, r_isSet hT b1 b4, b1_q, if_neg q1, if_pos rfl]
  · rw [e1, b1_q, if_pos rfl]
    refine ⟨_, _, _, rfl, ?_, hT, hi⟩
    rcases r_has hT b4 x1 with ⟨h', e2⟩ | ⟨h', e2⟩
    · exact absurd h' h
    · rw [e2, b1_q, if_pos rfl]
