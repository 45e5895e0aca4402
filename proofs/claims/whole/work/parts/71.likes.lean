theorem chk_words {w : Nat → Bool} : ∀ {c : List (Nat × Nat)} {ts ts' : List Bool}, chk w c ts = some ts' → ∀ p, p ∈ c → p.1 = 47 → w p.2 = true
  | [], _, _, _, p, hp, _ => by cases hp
  | q :: c, ts, ts', h, p, hp, h47 => by
    have h' : (cs w q ts).bind (chk w c) = some ts' := h
    cases hcs : cs w q ts with
    | none => rw [hcs] at h'; cases h'
    | some t1 =>
      rw [hcs] at h'
      rcases List.mem_cons.mp hp with rfl | hp'
      · rcases cs_cases hcs with ⟨a, -⟩ | ⟨-, a, -⟩ | ⟨a, -⟩ | ⟨a, b, -⟩ | ⟨a, b, -⟩ | ⟨a, -⟩
        · omega
        · exact a
        · omega
        · omega
        · omega
        · omega
      · exact chk_words h' p hp' h47
theorem okRu_words {L : List Rc} (hL : okRu L) : ∀ c, c ∈ L → c.1 = 0 → ∀ p, (p ∈ c.2.2.1 ∨ p ∈ c.2.2.2) → p.1 = 47 → wR p.2 = true := by
  intro c hc h0 p hp h47
  obtain ⟨h1, h2, h3⟩ := (hL.2 c hc).2.2 h0
  rcases hp with hp | hp
  · exact chk_words (h1 []) p hp h47
  · rcases h3 with h3 | h3
    · rw [h3] at hp; cases hp
    · exact chk_words (h3.1 []) p hp h47
theorem rul_T {T : zT} (hT : iT T) {q : Nat} (hq : q < 6) : zr T 45 q = 46 + 5 * q ∧ ruT T (46 + 5 * q) := by
  have : q = 0 ∨ q = 1 ∨ q = 2 ∨ q = 3 ∨ q = 4 ∨ q = 5 := by omega
  rcases this with rfl | rfl | rfl | rfl | rfl | rfl
  · exact ⟨zT_45_0 hT, zT_46_0 hT, zT_46_1 hT, zT_46_4 hT, zT_49_0 hT⟩
  · exact ⟨zT_45_1 hT, zT_51_0 hT, zT_51_1 hT, zT_51_4 hT, zT_54_0 hT⟩
  · exact ⟨zT_45_2 hT, zT_56_0 hT, zT_56_1 hT, zT_56_4 hT, zT_59_0 hT⟩
  · exact ⟨zT_45_3 hT, zT_61_0 hT, zT_61_1 hT, zT_61_4 hT, zT_64_0 hT⟩
  · exact ⟨zT_45_4 hT, zT_66_0 hT, zT_66_1 hT, zT_66_4 hT, zT_69_0 hT⟩
  · exact ⟨zT_45_5 hT, zT_71_0 hT, zT_71_1 hT, zT_71_4 hT, zT_74_0 hT⟩
def isRl (r : Nat) (x : Int32) : Prop := 0 ≤ x.toInt ∧ x.toInt < (r : Int)
theorem isRl_q {r : Nat} {x : Int32} (hr : r ≤ 6) (h : isRl r x) : ∃ q, q < r ∧ x = nI q := ⟨x.toNatClampNeg, by have := z_tn h.1; have := h.2; omega, (nI_n h.1).symm⟩
theorem c_isRule {T : zT} {S : zS} {r : Nat} (hr : r ≤ 6) (h : S.1 0 7 = nI r) (x : Int32) : (isRl r x ∧ fX11_isRule T 0 x S = some 1) ∨ (¬ isRl r x ∧ fX11_isRule T 0 x S = some 0) := by
  unfold fX11_isRule fX11_isRule_b22 fX11_isRule_b23
  rw [h]
  by_cases q0 : x < 0
  · rw [if_pos q0]
    have a : x.toInt < 0 := z_lt.mp q0
    exact Or.inr ⟨fun z => by have := z.1; omega, rfl⟩
  · rw [if_neg q0]
    have a : 0 ≤ x.toInt := z_le.mp (z_nlt q0)
    by_cases q1 : nI r ≤ x
    · rw [if_pos q1]
      have b := z_le.mp q1
      rw [nI_toInt (by omega)] at b
      exact Or.inr ⟨fun z => by have := z.2; omega, rfl⟩
    · rw [if_neg q1]
      have b : x.toInt < r := by have := z_lt.mp (z_nle q1); rw [nI_toInt (by omega)] at this; exact this
      rw [if_neg (fun z => by have c : (6 : Int) ≤ x.toInt := z_le.mp z; omega)]
      exact Or.inl ⟨⟨a, b⟩, rfl⟩
theorem r_isRule {T : zT} {S : zS} {r : Nat} (hr : r ≤ 6) (h : S.1 187 5 = nI r) (x : Int32) : (isRl r x ∧ fX12_isRule T 187 x S = some 1) ∨ (¬ isRl r x ∧ fX12_isRule T 187 x S = some 0) := by
  unfold fX12_isRule
  have e1 : (nI r - 1).toInt = (r : Int) - 1 := by
    rw [z_sub (by rw [nI_toInt (by omega)]; show _ ≤ _ - (1 : Int); omega) (by rw [nI_toInt (by omega)]; show _ - (1 : Int) < _; omega), nI_toInt (by omega)]
    rfl
  rw [h, v_in32, i2l_t, e1, b1_q]
  by_cases q : isRl r x
  · left
    have q' : (0 : Int64).toInt ≤ x.toInt ∧ x.toInt ≤ (r : Int) - 1 := ⟨q.1, by have := q.2; omega⟩
    rw [if_pos q']
    exact ⟨q, rfl⟩
  · right
    rw [if_neg (fun z : (0 : Int64).toInt ≤ x.toInt ∧ x.toInt ≤ (r : Int) - 1 => q ⟨z.1, by have := z.2; omega⟩)]
    exact ⟨q, rfl⟩
theorem r_isOfBook {T : zT} (hT : iT T) {B : Bk} (hB : okB B) {S : zS} (hr : bkR S.1 B) (x : Int32) : fX12_isOfBook T 187 x S = some (if 0 ≤ x.toInt ∧ x.toInt < (bw B : Int) then 1 else 0) := by
  obtain ⟨w1, w2, w3⟩ := bw_nI hB
  have i0 : zin 0 2 = true := by decide
  have t0 : (0 : Int32).toNatClampNeg = 0 := rfl
  unfold fX12_isOfBook
  have e1 : (nI (bw B) - 1).toInt = (bw B : Int) - 1 := by
    rw [z_sub (by rw [nI_toInt (by omega)]; show _ ≤ _ - (1 : Int); omega) (by rw [nI_toInt (by omega)]; show _ - (1 : Int) < _; omega), nI_toInt (by omega)]
    rfl
  rw [g_t i0, zT_187_33 hT, t0, hr.2.2.1, w1, v_in32, i2l_t, e1, b1_q]
  by_cases q : 0 ≤ x.toInt ∧ x.toInt < (bw B : Int)
  · rw [if_pos (show (0 : Int64).toInt ≤ x.toInt ∧ x.toInt ≤ (bw B : Int) - 1 from ⟨q.1, by have := q.2; omega⟩), if_pos q]; rfl
  · rw [if_neg (fun z : (0 : Int64).toInt ≤ x.toInt ∧ x.toInt ≤ (bw B : Int) - 1 => q ⟨z.1, by have := z.2; omega⟩), if_neg q]; rfl
theorem and_m1 {x : Int32} (h : is8 x) : x &&& ((0 : Int32) ^^^ (-1)) = x := by
  refine is8_ext (is8_and h) h (fun t ht => ?_)
  rw [m_dif, m_0]; simp
theorem ok22 : oK22 invTS := by
  rintro T S ⟨hT, hi⟩ x1 x2 x3 x4 x5
  obtain ⟨-, ⟨r, hr6, hrc, hrr, hru⟩, -, B, A, ⟨b1, b2, b3, b4, b5, b6⟩, -⟩ := id hi
  obtain ⟨w1, w2, w3⟩ := bw_nI b1
  have e5 : ∀ S : zS, fX12_in T x5.toInt64 0 99999 S = some (if 0 ≤ x5.toInt ∧ x5.toInt ≤ 99999 then 1 else 0) := by
    intro S
    rw [v_in32]
    rfl
  have zero : fX11_likes_b35 T 0 x1 x2 x3 x4 x5 S = some (0, S) := by
    unfold fX11_likes_b35 fX11_likes_b36
    rw [if_pos rfl]; rfl
  -- all is as told, or nothing is
  by_cases hall : isRl r x1 ∧ hasP B x2 ∧ mi x4 (bth B) = 0 ∧ (0 ≤ x3.toInt ∧ x3.toInt < (bw B : Int)) ∧ (0 ≤ x5.toInt ∧ x5.toInt ≤ 99999) ∧ (x4 >>> (x2 &&& 31)) &&& 1 = 0
  · obtain ⟨h1, ⟨t, ht, rfl, hz⟩, h3, h4, h5, h6⟩ := hall
    obtain ⟨q, hq, rfl⟩ := isRl_q hr6 h1
    obtain ⟨L, l1, l2, l3⟩ := hru q hq
    obtain ⟨t1, t2⟩ := rul_T hT (show q < 6 by omega)
    have i4 := sub_is8 b1 h3
    obtain ⟨S12, e12, hb12⟩ := c_begin hT (S := S)
    obtain ⟨k0, k1, k2, k3, k4, k5, k6, k7, k8, k9⟩ := hb12
    have f14 : ∀ a b, ¬ (166 ≤ a ∧ a ≤ 175) → (zI (zI S12 166 4 x4) 166 3 x5).1 a b = S.1 a b := fun a b n => by rw [zI_ne (by omega), zI_ne (by omega)]; exact k0.2 a b (decide_eq_false n)
    have hc14 : bkC (zI (zI S12 166 4 x4) 166 3 x5) 7 B := bkC_cg (fun a b _ _ => f14 a b (by omega)) b3
    have hru14 : ruC (zI (zI S12 166 4 x4) 166 3 x5) (46 + 5 * q) L := ruC_cg (fun a b _ _ => f14 a b (by omega)) l2
    obtain ⟨m1, m2, m3, m4⟩ := k9 t ht
    have r0 : S.1 8 t = B.1 0 t := b3.2.1 t ht hz 0 (by decide)
    have r1 : S.1 9 t = B.1 1 t := b3.2.1 t ht hz 1 (by decide)
    have hlow : lowd (zI (zI S12 166 4 x4) 166 3 x5) t x3 = B.1 0 t + B.1 1 t * x3 := by
      unfold lowd
      simp (decide := true) only [zI_ne]
      rw [m1, m2, m3, r0, r1, Int32.sub_zero]
    have hrun : (zI (zI S12 166 4 x4) 166 3 x5).1 174 t = B.1 1 t := by
      rw [zI_ne (by decide), zI_ne (by decide), m2, r1]
    have e4 : (zI (zI S12 166 4 x4) 166 3 x5).1 166 4 = x4 := by rw [zI_eqn (by decide), zI_eqs]
    have e3 : (zI (zI S12 166 4 x4) 166 3 x5).1 166 3 = x5 := zI_eqs
    obtain ⟨S', p1, p2⟩ := v_liking hT t2 l1 b1 hc14 hru14 ht hz (w := x3) (by rw [e4]; exact i4) hlow hrun (okRu_words l1)
    have elin : linn (zI (zI S12 166 4 x4) 166 3 x5) = bth B &&& (x4 ^^^ (-1)) := by
      unfold linn
      rw [bkC_th hc14, e4, zI_eqn (by decide), zI_eqn (by decide), k3]
      exact and_m1 (is8_and b1.1)
    rw [e4, e3, elin] at p1
    have hC : fX11_likes T 0 (nI q) (nI t) x3 x4 x5 S = some (lkV (envR B t x3 x4 (bth B &&& (x4 ^^^ (-1))) x5) L, S') := by
      unfold fX11_likes
      rcases c_isRule (T := T) hr6 hrc (nI q) with ⟨-, e⟩ | ⟨n, -⟩
      · rw [e, b1_q, if_neg n10, zT_0_3 hT]
        rcases c_has (T := T) b3 (nI t) with ⟨-, e⟩ | ⟨n, -⟩
        · rw [e, b1_q, if_neg n10, c_hasAll b3, b1_q, if_pos h3, if_neg n10]
          unfold fX11_likes_b36
          rw [if_neg n10, if_neg (by rw [z_lt]; show ¬ _ < (0 : Int); omega), zT_0_3 hT, b3.1 1 (by decide), w1, if_neg (by rw [z_le, nI_toInt (by omega)]; omega), if_neg (by rw [z_lt]; show ¬ _ < (0 : Int); omega), if_pos (by rw [z_le]; show _ ≤ (99999 : Int); omega), if_pos h6, zT_0_12 hT, e12, b_q, let_q, let_q, g_in (show q < 6 by omega) (by decide), zT_0_6 hT, tn_nI (by omega), t1, p1, b_q]
        · exact absurd ⟨t, ht, rfl, hz⟩ n
      · exact absurd h1 n
    have f' : ∀ a b, ¬ (166 ≤ a ∧ a ≤ 175) → S'.1 a b = S.1 a b := fun a b n => by rw [p2]; exact f14 a b n
    have hk := kp_I f'
    have b4' : bkR S'.1 B := bkR_kp hk.1 b4
    have n6 : ¬ (x4 >>> (nI t &&& 31)) &&& 1 = 1 := by rw [h6]; decide
    obtain ⟨S'', q1, q2⟩ := r_likesIt hT b1 (show q < 6 by omega) ht l1 b4' (ruR_cg (by have := l1.1; omega) (fun a b _ _ _ _ _ => f' a b (by omega)) l3) (w := x3) (has := x5) i4 (th_minus b1 (x := x4))
    have hR : fX12_likes T 187 (nI q) (nI t) x3 x4 x5 S' = some (lkV (envR B t x3 x4 (bth B &&& (x4 ^^^ (-1))) x5) L, S'') := by
      unfold fX12_likes
      rcases r_isRule (T := T) (S := S') hr6 (by rw [f' _ _ (by omega)]; exact hrr) (nI q) with ⟨-, e⟩ | ⟨n, -⟩
      · rw [e, b1_q, if_neg n10]
        rcases r_has hT b4' (nI t) with ⟨-, e⟩ | ⟨n, -⟩
        · rw [e, b1_q, if_neg n10, r_isOfBook hT b1 b4', b1_q, if_pos h4, if_neg n10, r_isSet hT b1 b4', b1_q, if_pos h3, if_neg n10, if_neg n6, e5, b1_q, if_pos h5, if_neg n10, r_all hT b4' b1.1, b1_q, q1, b_q]
        · exact absurd ⟨t, ht, rfl, hz⟩ n
      · exact absurd h1 n
    exact ⟨_, _, _, hC, hR, hT, inv_J q2 (inv_kp hk.1 hk.2 hi)⟩
  · have hC : fX11_likes T 0 x1 x2 x3 x4 x5 S = some (0, S) := by
      unfold fX11_likes
      rw [zT_0_3 hT]
      rcases c_isRule (T := T) hr6 hrc x1 with ⟨h1, e⟩ | ⟨-, e⟩
      · rw [e, b1_q, if_neg n10]
        rcases c_has (T := T) b3 x2 with ⟨h2, e⟩ | ⟨-, e⟩
        · rw [e, b1_q, if_neg n10, c_hasAll b3, b1_q]
          by_cases h3 : mi x4 (bth B) = 0
          · rw [if_pos h3, if_neg n10]
            unfold fX11_likes_b36 fX11_likes_b71
            rw [if_neg n10]
            by_cases a1 : x3 < 0
            · rw [if_pos a1]
            · rw [if_neg a1, zT_0_3 hT, b3.1 1 (by decide), w1]
              have a1' : 0 ≤ x3.toInt := z_le.mp (z_nlt a1)
              by_cases a2 : nI (bw B) ≤ x3
              · rw [if_pos a2]
              · rw [if_neg a2]
                have a2' : x3.toInt < (bw B : Int) := by have := z_lt.mp (z_nle a2); rw [nI_toInt (by omega)] at this; exact this
                by_cases a3 : x5 < 0
                · rw [if_pos a3]
                · rw [if_neg a3]
                  have a3' : 0 ≤ x5.toInt := z_le.mp (z_nlt a3)
                  by_cases a4 : x5 ≤ 99999
                  · rw [if_pos a4]
                    have a4' : x5.toInt ≤ 99999 := z_le.mp a4
                    rw [if_neg (fun z => hall ⟨h1, h2, h3, ⟨a1', a2'⟩, ⟨a3', a4'⟩, z⟩)]
                  · rw [if_neg a4]
          · rw [if_neg h3, if_pos rfl, zero]
        · rw [e, b1_q, if_pos rfl, zero]
      · rw [e, b1_q, if_pos rfl, zero]
    have hR : fX12_likes T 187 x1 x2 x3 x4 x5 S = some (0, S) := by
      unfold fX12_likes fX12_likes_b56
      rcases r_isRule (T := T) hr6 hrr x1 with ⟨h1, e⟩ | ⟨-, e⟩
      · rw [e, b1_q, if_neg n10]
        rcases r_has hT b4 x2 with ⟨h2, e⟩ | ⟨-, e⟩
        · rw [e, b1_q, if_neg n10, r_isOfBook hT b1 b4, b1_q]
          by_cases h4 : 0 ≤ x3.toInt ∧ x3.toInt < (bw B : Int)
          · rw [if_pos h4, if_neg n10, r_isSet hT b1 b4, b1_q]
            by_cases h3 : mi x4 (bth B) = 0
            · rw [if_pos h3, if_neg n10]
              by_cases h6 : (x4 >>> (x2 &&& 31)) &&& 1 = 1
              · rw [if_pos h6]
              · rw [if_neg h6, e5, b1_q]
                have h6' : (x4 >>> (x2 &&& 31)) &&& 1 = 0 := by
                  obtain ⟨t, ht, rfl, -⟩ := h2
                  rw [m_sh0 (by omega)]
                  rw [m_sh1 (by omega)] at h6
                  simpa using h6
                by_cases h5 : 0 ≤ x5.toInt ∧ x5.toInt ≤ 99999
                · exact absurd ⟨h1, h2, h3, h4, h5, h6'⟩ hall
                · rw [if_neg h5, if_pos rfl]
            · rw [if_neg h3, if_pos rfl]
          · rw [if_neg h4, if_pos rfl]
        · rw [e, b1_q, if_pos rfl]
      · rw [e, b1_q, if_pos rfl]
    exact ⟨_, _, _, hC, hR, hT, hi⟩
