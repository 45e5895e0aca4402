/-! CLAUSES of a book -/
/-- its kind (0 thing, 1 set, 2 needs, ..), its set, its amount, its test ([]: none) -/
abbrev Cl : Type := Nat × Int32 × Int32 × List (Nat × Nat)
def wB (q : Nat) : Bool := decide (19 ≤ q ∧ q ≤ 21)
def wmB (q : Nat) : Nat := q - 19
def sumL (f : Cl → Int32) (l : List Cl) : Int32 := l.foldl (fun s c => s + f c) 0
theorem foldl_app (f : Cl → Int32) (l : List Cl) (c : Cl) (s : Int32) : (l ++ [c]).foldl (fun s c => s + f c) s = l.foldl (fun s c => s + f c) s + f c := by rw [List.foldl_append]; rfl
theorem sumL_app (f : Cl → Int32) (l : List Cl) (c : Cl) : sumL f (l ++ [c]) = sumL f l + f c := foldl_app f l c 0
theorem sumL_take {f : Cl → Int32} {l : List Cl} {i : Nat} {c : Cl} (h : l[i]? = some c) : sumL f (l.take (i + 1)) = sumL f (l.take i) + f c := by
  rw [List.take_add_one, h]
  exact sumL_app f _ c
theorem sumL_congr {f g : Cl → Int32} {l : List Cl} (h : ∀ c, c ∈ l → f c = g c) : sumL f l = sumL g l := by
  unfold sumL
  have key : ∀ (l : List Cl) (s : Int32), (∀ c, c ∈ l → f c = g c) → l.foldl (fun s c => s + f c) s = l.foldl (fun s c => s + g c) s := by
    intro l
    induction l with
    | nil => intro s _; rfl
    | cons c l ih =>
      intro s h
      show l.foldl (fun s c => s + f c) (s + f c) = l.foldl (fun s c => s + g c) (s + g c)
      rw [h c (List.mem_cons_self ..)]
      exact ih _ (fun d hd => h d (List.mem_cons_of_mem _ hd))
  exact key l 0 h
theorem sumL_filter {f : Cl → Int32} {p : Cl → Bool} {l : List Cl} : sumL (fun c => if p c = true then f c else 0) l = sumL f (l.filter p) := by
  unfold sumL
  have key : ∀ (l : List Cl) (s : Int32), l.foldl (fun s c => s + (if p c = true then f c else 0)) s = (l.filter p).foldl (fun s c => s + f c) s := by
    intro l
    induction l with
    | nil => intro s; rfl
    | cons c l ih =>
      intro s
      show l.foldl _ (s + (if p c = true then f c else 0)) = _
      rw [ih]
      by_cases h : p c = true
      · rw [if_pos h, List.filter_cons_of_pos h]; rfl
      · rw [if_neg h, List.filter_cons_of_neg h, Int32.add_zero]
  exact key l 0
theorem sumL_nil {f : Cl → Int32} : sumL f [] = 0 := rfl
/-- the test of a clause holds -/
abbrev hld (env : Nat → Int64) (c : List (Nat × Nat)) : Prop := c = [] ∨ ¬ evv env c = 0
def okC (c : List (Nat × Nat)) : Prop := c = [] ∨ isT wB c ∧ nvs c ≤ 60
def ernF (env : Nat → Int64) (home : Int32) (c : Cl) : Int32 := if hld env c.2.2.2 ∧ c.2.1 &&& (home ^^^ (-1)) = 0 then c.2.2.1 else 0
/-- what clauses come to -/
def ern (env : Nat → Int64) (home : Int32) (l : List Cl) : Int32 := sumL (ernF env home) l
def envB (w h n : Int32) (q : Nat) : Int64 := if q = 19 then w.toInt64 else if q = 20 then h.toInt64 else n.toInt64
/-! in the class -/
def cTest (S : zS) (kc : Nat) (x : Int32) (c : List (Nat × Nat)) : Prop := c = [] ∧ x = -1 ∨ ¬ c = [] ∧ ∃ s, x = nI s ∧ s + c.length < 512 ∧ cAt S kc s (c ++ [(48, 0)])
def cCls (S : zS) (kk kc : Nat) (l : List Cl) : Prop := S.1 kk 3 = nI l.length ∧ l.length ≤ 24 ∧ ∀ i c, l[i]? = some c → okC c.2.2.2 ∧ S.1 (kk + 1) i = c.2.1 ∧ S.1 (kk + 2) i = c.2.2.1 ∧ cTest S kc (S.1 (kk + 3) i) c.2.2.2
theorem cTest_eq {S S' : zS} {kc : Nat} {x : Int32} {c : List (Nat × Nat)} (e : S'.1 = S.1) (h : cTest S kc x c) : cTest S' kc x c := by
  rcases h with h | ⟨h1, s, h2, h3, h4⟩
  · exact Or.inl h
  · exact Or.inr ⟨h1, s, h2, h3, cAt_eq e h4⟩
theorem cCls_eq {S S' : zS} {kk kc : Nat} {l : List Cl} (e : S'.1 = S.1) (h : cCls S kk kc l) : cCls S' kk kc l := by
  unfold cCls at h ⊢
  rw [e]
  exact ⟨h.1, h.2.1, fun i c hc => ⟨(h.2.2 i c hc).1, (h.2.2 i c hc).2.1, (h.2.2 i c hc).2.2.1, cTest_eq e (h.2.2 i c hc).2.2.2⟩⟩
theorem m_or_shl {x : Int32} {k t : Nat} (hk : k < 32) (ht : t < 32) : zm (x ||| (1 <<< (nI k &&& 31))) t = (zm x t || decide (t = k)) := by rw [m_or, m_shl hk ht]
/-- which clauses hold -/
theorem v_holding {T : zT} {kk kc ks : Nat} {l : List Cl} {env : Nat → Int64} {S : zS} (g2 : zr T kk 2 = kk + 3) (h1 : zr T kc 0 = kc + 1) (h2 : zr T ks 0 = ks + 1) (h3 : zr T ks 1 = ks + 2) (hl : cCls S kk kc l) (he : ∀ q, wB q = true → env q = S.2 (ks + 1) q) : zwp (fX1_holding T kk kc ks S) (fun r => (∀ i c, l[i]? = some c → (zm r.1 i = true ↔ hld env c.2.2.2)) ∧ onlyJ S r.2 (ks + 2)) := by
  unfold fX1_holding
  have hlen := hl.1
  have h24 := hl.2.1
  refine w_b1 (P := fun e => (∀ i c, l[i]? = some c → (zm e.1 i = true ↔ hld env c.2.2.2)) ∧ onlyJ S e.2 (ks + 2)) ?_ (fun r hr => by unfold fX1_holding_b62; exact w_some hr)
  refine lp_for (I := fun n a => ∃ x S', a = (x, nI n, S') ∧ onlyJ S S' (ks + 2) ∧ (∀ i c, i < n → l[i]? = some c → (zm x i = true ↔ hld env c.2.2.2)) ∧ ∀ i, n ≤ i → i < 32 → zm x i = false) l.length ?_ ?_ ?_
  · rintro n a hn ⟨x, S', rfl, ho, hx, hz⟩
    left
    obtain ⟨c, hc⟩ : ∃ c, l[n]? = some c := ⟨l[n], List.getElem?_eq_getElem hn⟩
    obtain ⟨c1, c2, c3, c4⟩ := hl.2.2 n c hc
    have cnt : S'.1 kk 3 = nI l.length := by rw [ho.1]; exact hlen
    -- both ways on
    have no : ¬ hld env c.2.2.2 → ∀ i c, i < n + 1 → l[i]? = some c → (zm x i = true ↔ hld env c.2.2.2) := by
      intro hn2 i d hi hd
      by_cases e : i = n
      · subst e
        rw [hc] at hd
        cases hd
        rw [hz i (Nat.le_refl _) (by omega)]
        exact ⟨fun q => (by cases q), fun q => absurd q hn2⟩
      · exact hx i d (by omega) hd
    have yes : hld env c.2.2.2 → ∀ i c, i < n + 1 → l[i]? = some c → (zm (x ||| (1 <<< (nI n &&& 31))) i = true ↔ hld env c.2.2.2) := by
      intro hy i d hi hd
      rw [m_or_shl (by omega) (by omega)]
      by_cases e : i = n
      · subst e
        rw [hc] at hd
        cases hd
        rw [decide_eq_true rfl, Bool.or_true]
        exact ⟨fun _ => hy, fun _ => rfl⟩
      · rw [decide_eq_false e, Bool.or_false]
        exact hx i d (by omega) hd
    have yesz : ∀ i, n + 1 ≤ i → i < 32 → zm (x ||| (1 <<< (nI n &&& 31))) i = false := by
      intro i hi h32
      rw [m_or_shl (by omega) h32, hz i (by omega) h32, decide_eq_false (by omega)]
      rfl
    unfold fX1_holding_l5
    simp (disch := omega) only [cnt, n_leL, n_le, if_neg, g_in, tn_nI, g2]
    rcases c4 with ⟨c5, c6⟩ | ⟨c5, s, c6, c7, c8⟩
    · rw [show S'.1 (kk + 3) n = -1 by rw [ho.1]; exact c6, if_pos rfl]
      unfold fX1_holding_b49 fX1_holding_b56
      refine ⟨_, rfl, x ||| (1 <<< (nI n &&& 31)), S', ?_, ho, yes (Or.inl c5), yesz⟩
      show (_, nI n + 1, S') = _
      rw [n_addL]
    · have c6' : S'.1 (kk + 3) n = nI s := by rw [ho.1]; exact c6
      rw [c6', if_neg (by rw [z_eq, nI_toInt (by omega)]; show ¬ (s : Int) = -1; omega)]
      obtain ⟨r, e, p1, p2⟩ := v_valueAt (T := T) (ks := ks) (kc := kc) (i := s) (w := wB) (env := env) (c := c.2.2.2) (S := S') h1 h2 h3 (fun q hq => by have := of_decide_eq_true hq; omega) (c1.elim (fun q => absurd q c5) (fun q => Or.inr q.1)) (c1.elim (fun q => absurd q c5) (fun q => by omega)) (cAt_eq ho.1 c8) c7 (fun q hq => by rw [he q hq, ho.2 _ _ (by omega)])
      rw [e]
      have ho2 : onlyJ S r.2 (ks + 2) := ⟨p2.1.trans ho.1, fun a b hab => (p2.2 a b hab).trans (ho.2 a b hab)⟩
      show ∃ a', (if lg_cmp r.1 0 = 0 then _ else _) = _ ∧ _
      by_cases hv : r.1 = 0
      · rw [if_pos ((lg_cmp_eq _ _).mpr hv)]
        unfold fX1_holding_b56
        refine ⟨_, rfl, x, r.2, ?_, ho2, no (fun q => q.elim (fun z => c5 z) (fun z => z (p1 ▸ hv))), fun i hi h32 => hz i (by omega) h32⟩
        show (_, nI n + 1, r.2) = _
        rw [n_addL]
      · rw [if_neg (fun q => hv ((lg_cmp_eq _ _).mp q))]
        unfold fX1_holding_b49 fX1_holding_b56
        refine ⟨_, rfl, x ||| (1 <<< (nI n &&& 31)), r.2, ?_, ho2, yes (Or.inr (p1 ▸ hv)), yesz⟩
        show (_, nI n + 1, r.2) = _
        rw [n_addL]
  · rintro a ⟨x, S', rfl, ho, hx, hz⟩
    have cnt : S'.1 kk 3 = nI l.length := by rw [ho.1]; exact hlen
    unfold fX1_holding_l5
    refine ⟨(x, S'), ?_, fun i c hc => hx i c ?_ hc, ho⟩
    · rw [cnt, if_pos (by rw [n_le (by omega) (by omega)]; exact Nat.le_refl _)]
    · exact (List.getElem?_eq_some_iff.mp hc).1
  · exact ⟨0, S, rfl, onlyJ_refl, fun i c hi => absurd hi (Nat.not_lt_zero _), fun i _ h32 => m_0⟩
theorem v_together {T : zT} {kk kc : Nat} {l : List Cl} {env : Nat → Int64} {S : zS} {h home : Int32} (g0 : zr T kk 0 = kk + 1) (g1 : zr T kk 1 = kk + 2) (hl : cCls S kk kc l) (hh : ∀ i c, l[i]? = some c → (zm h i = true ↔ hld env c.2.2.2)) : fX1_together T kk h home S = some (ern env home l) := by
  have hlen := hl.1
  have h24 := hl.2.1
  unfold fX1_together
  have key : zwp (lp (fun a => fX1_together_l5 T kk h home S a.1 a.2) (0, 0)) (fun e => e = ern env home l) := by
    refine lp_for (I := fun n a => a = (sumL (ernF env home) (l.take n), nI n)) l.length ?_ ?_ ?_
    · rintro n a hn rfl
      left
      obtain ⟨c, hc⟩ : ∃ c, l[n]? = some c := ⟨l[n], List.getElem?_eq_getElem hn⟩
      obtain ⟨c1, c2, c3, c4⟩ := hl.2.2 n c hc
      unfold fX1_together_l5 fX1_together_b54
      simp (disch := omega) only [hlen, n_leL, n_le, if_neg, g_in, tn_nI, g0, g1, c2, c3, let_q, n_addL]
      rw [sumL_take hc]
      have hs := hh n c hc
      unfold ernF
      by_cases hy : hld env c.2.2.2
      · rw [if_neg (show ¬ (h >>> (nI n &&& 31)) &&& 1 = 0 from fun q => by
          have := (m_sh0 (x := h) (t := n) (by omega)).mp q
          rw [hs.mpr hy] at this; cases this)]
        by_cases hb : c.2.1 &&& (home ^^^ (-1)) = 0
        · rw [if_pos (⟨hy, hb⟩ : hld env c.2.2.2 ∧ c.2.1 &&& (home ^^^ (-1)) = 0)]
          exact ⟨_, if_pos hb, rfl⟩
        · rw [if_neg (fun q : hld env c.2.2.2 ∧ c.2.1 &&& (home ^^^ (-1)) = 0 => hb q.2), Int32.add_zero]
          exact ⟨_, if_neg hb, rfl⟩
      · rw [if_pos (show (h >>> (nI n &&& 31)) &&& 1 = 0 from (m_sh0 (x := h) (t := n) (by omega)).mpr (by
          cases hz : zm h n with
          | false => rfl
          | true => exact absurd (hs.mp hz) hy))]
        rw [if_neg (fun q : hld env c.2.2.2 ∧ c.2.1 &&& (home ^^^ (-1)) = 0 => hy q.1), Int32.add_zero]
        exact ⟨_, rfl, rfl⟩
    · rintro a rfl
      refine ⟨ern env home l, ?_, rfl⟩
      unfold fX1_together_l5
      rw [hlen, if_pos (by rw [n_le (by omega) (by omega)]; exact Nat.le_refl _), List.take_length]
      rfl
    · rfl
  obtain ⟨r, e, q⟩ := key
  rw [e, b1_q, q]
  rfl
