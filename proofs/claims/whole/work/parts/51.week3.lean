/-! the ROW: how many acts, and of each its week (0), sort (1), thing (2) -/
abbrev Rw : Type := Nat × (Nat → Nat → Int32)
def rwC (S : zS) (k : Nat) (A : Rw) : Prop := S.1 k 3 = nI A.1 ∧ ∀ i, i < A.1 → ∀ j, j < 3 → S.1 (k + 1 + j) i = A.2 j i
def rwR (R : Nat → Nat → Int32) (A : Rw) : Prop := R 187 36 = nI A.1 ∧ ∀ i, i < A.1 → ∀ j, j < 3 → R (213 + j) i = A.2 j i
def okRw (B : Bk) (A : Rw) : Prop := A.1 ≤ 60 ∧ ∀ i, i < A.1 → (∃ w, w ≤ 60 ∧ A.2 0 i = nI w) ∧ (A.2 1 i = 4 ∨ ∃ t, t < 8 ∧ A.2 2 i = nI t ∧ zm (bth B) t = true ∧ (A.2 1 i = 0 ∨ A.2 1 i = 1 ∨ A.2 1 i = 2 ∨ A.2 1 i = 3))
theorem rwC_cg {S S' : zS} {k : Nat} {A : Rw} (e : ∀ a b, k ≤ a → a ≤ k + 3 → S'.1 a b = S.1 a b) (h : rwC S k A) : rwC S' k A := ⟨by rw [e _ _ (by omega) (by omega)]; exact h.1, fun i hi j hj => by rw [e _ _ (by omega) (by omega)]; exact h.2 i hi j hj⟩
theorem rwC_g {S S' : zS} {A : Rw} (h : gC S S') (hr : rwC S 41 A) : rwC S' 41 A := rwC_cg (fun a b _ _ => h.1 a b (by omega)) hr
theorem rwR_g {S S' : zS} {A : Rw} (h : gR S S') (hr : rwR S.1 A) : rwR S'.1 A := ⟨by rw [h.1 _ _ (by omega) (by omega)]; exact hr.1, fun i hi j hj => by rw [h.1 _ _ (by omega) (by omega)]; exact hr.2 i hi j hj⟩
noncomputable def kAct (T : zT) (e13 : zS ⊕ ((Int32 × zS) ⊕ (Int32 × zS))) : Option (Int32 × zS) := zsm e13 (fun e13_0 => fX4_doActs_b75 T 41 e13_0) (fun e13r1 => zsm e13r1 (fun e13_1 => some (e13_1.1, e13_1.2)) (fun e13_2 => zlet (zI e13_2.2 166 6 e13_2.1) fun S14 => some (e13_2.1, S14)))
/-- what stands behind a week's acts -/
def actEnd (B : Bk) (A : Rw) (w : Nat) (c0 : Int) (n' : Nat) (x : Int32) (Sc' Sr' : zS) : Prop :=
  (x = nI n' ∧ wel Sc' Sr' ∧ lfR B w (c0 + 10000 * n') Sc' Sr') ∨
  (n' < A.1 ∧ Sc'.1 166 6 = nI n' ∧ Sr'.1 187 49 = nI n' ∧ Sc'.1 166 7 = -1 ∧ Sr'.1 187 50 = -1 ∧ lfR B w (c0 + 10000 * (n' + 1)) Sc' Sr')
section
variable {T : zT} {B : Bk} {A : Rw} {w d : Nat} {c0 : Int}
theorem acts_loop (hT : iT T) (hB : okB B) (hA : okRw B A) (hw : w < 60) (hcap : c0 + 620000 < 2147483648) (x1 x2 x5 : Int32) : ∀ (m i : Nat) (Sc Sr : zS), i + m = A.1 → bkC Sc 7 B → bkR Sr.1 B → rwC Sc 41 A → rwR Sr.1 A → lfR B w (c0 + 10000 * i) Sc Sr → wel Sc Sr → lfD d Sc Sr → ∃ (n' : Nat) (x : Int32) (Sc' Sr' : zS), zb1 (lp (fun a => fX4_doActs_l3 T 166 41 (nI w) a.1 a.2) (nI i, Sc)) (kAct T) = some (nI n', Sc') ∧ lp (fun a => fX12_goesBy_l120 T 187 x1 x2 (nI w) x5 a.1 a.2) (nI i, Sr) = some (x, Sr') ∧ n' ≤ A.1 ∧ actEnd B A w c0 n' x Sc' Sr' ∧ lfD d Sc' Sr' ∧ gC Sc Sc' ∧ gR Sr Sr' := by
  have hA60 := hA.1
  intro m
  induction m with
  | zero =>
    intro i Sc Sr hi hc hr rc rr rel hwl hd
    have e : i = A.1 := by omega
    have s1 : fX4_doActs_l3 T 166 41 (nI w) (nI i) Sc = some (.inr (.inl Sc)) := by
      unfold fX4_doActs_l3
      rw [if_neg (n_lt0 (by omega)), rc.1, if_pos (by rw [n_le (by omega) (by omega)]; omega)]
    have s2 : fX12_goesBy_l120 T 187 x1 x2 (nI w) x5 (nI i) Sr = some (.inr (nI i, Sr)) := by
      unfold fX12_goesBy_l120
      rw [if_pos hwl.2.2.2, if_pos hwl.2.2.1, rr.1, if_pos (by rw [n_le (by omega) (by omega)]; omega)]
    refine ⟨i, nI i, Sc, Sr, ?_, lp_stop s2, by omega, Or.inl ⟨rfl, hwl, rel⟩, hd, gC_refl, gR_refl⟩
    rw [lp_stop (f := fun a => fX4_doActs_l3 T 166 41 (nI w) a.1 a.2) (a := (nI i, Sc)) s1, b1_q]
    show fX4_doActs_b75 T 41 Sc = _
    unfold fX4_doActs_b75
    rw [rc.1, e]
  | succ m ih =>
    intro i Sc Sr hi hc hr rc rr rel hwl hd
    have hiA : i < A.1 := by omega
    obtain ⟨⟨v, hv, ev⟩, hs⟩ := hA.2 i hiA
    have c0' : Sc.1 42 i = A.2 0 i := rc.2 i hiA 0 (by decide)
    have c1' : Sc.1 43 i = A.2 1 i := rc.2 i hiA 1 (by decide)
    have c2' : Sc.1 44 i = A.2 2 i := rc.2 i hiA 2 (by decide)
    have r0' : Sr.1 213 i = A.2 0 i := rr.2 i hiA 0 (by decide)
    have r1' : Sr.1 214 i = A.2 1 i := rr.2 i hiA 1 (by decide)
    have r2' : Sr.1 215 i = A.2 2 i := rr.2 i hiA 2 (by decide)
    have s1 : fX4_doActs_l3 T 166 41 (nI w) (nI i) Sc = if A.2 0 i = nI w then zb (fX4_doAct T 166 (A.2 1 i) (A.2 2 i) (nI w) Sc) (fun r8 S10 => if r8 = 0 then some (.inr (.inr (.inr (nI i, S10)))) else some (.inl (nI (i + 1), S10))) else some (.inr (.inr (.inl (nI i, Sc)))) := by
      unfold fX4_doActs_l3
      rw [if_neg (n_lt0 (by omega)), rc.1, if_neg (by rw [n_le (by omega) (by omega)]; omega), if_neg (by rw [n_leL (by omega) (by omega)]; omega)]
      simp (disch := omega) only [g_in, tn_nI, let_q, zT_41_0 hT, zT_41_1 hT, zT_41_2 hT, n_addL, c0', c1', c2']
    have s2 : fX12_goesBy_l120 T 187 x1 x2 (nI w) x5 (nI i) Sr = if A.2 0 i = nI w then zb (fX12_does T 187 (nI i) Sr) (fun r21 S23 => if r21 = 0 then fX12_goesBy_b169 T 187 x1 x2 (nI i) (nI w) x5 (nI i) 187 S23 else fX12_goesBy_b169 T 187 x1 x2 (nI i) (nI w) x5 (-1) 187 S23) else some (.inr (nI i, Sr)) := by
      unfold fX12_goesBy_l120
      rw [if_pos hwl.2.2.2, if_pos hwl.2.2.1, rr.1, if_neg (by rw [n_le (by omega) (by omega)]; omega), g_in (by omega) (by decide), zT_187_37 hT, tn_nI (by omega), r0']
    by_cases q : A.2 0 i = nI w
    · rw [if_pos q] at s1 s2
      obtain ⟨r, Sc1, Sr1, e1, e2, hr01, rel1, f1, f2⟩ := act_sim hT hB hw hc hr rel (by omega) (show i < 60 by omega) (s := A.2 1 i) (x := A.2 2 i) (by rw [r0', q]) r1' r2' hs
      rw [e1, b_q] at s1
      rw [e2, b_q] at s2
      have ec : c0 + 10000 * (i : Int) + 10000 = c0 + 10000 * ((i : Int) + 1) := by omega
      rw [ec] at rel1
      have hw1 := wel_f hwl f1 f2
      rcases hr01 with rfl | rfl
      · rw [if_pos rfl] at s1 s2
        unfold fX12_goesBy_b169 at s2
        rw [let_q, let_q] at s2
        -- the act can't be
        have fg : fX12_goesBy_l120 T 187 x1 x2 (nI w) x5 (nI i + 1) (zI Sr1 187 49 (nI i)) = some (.inr (nI i + 1, zI Sr1 187 49 (nI i))) := by
          unfold fX12_goesBy_l120
          rw [if_pos (by rw [zI_eqn (by decide)]; exact hw1.2.2.2), if_neg (by rw [zI_eqs]; exact n_m1 (by omega))]
        refine ⟨i, nI i + 1, zI Sc1 166 6 (nI i), zI Sr1 187 49 (nI i), ?_, lp_go s2 (lp_stop fg), by omega, Or.inr ⟨hiA, zI_eqs, zI_eqs, ?_, ?_, ?_, ?_, ?_, ?_⟩, ?_, gC_z (by omega) (gC_f f1), gR_z (by omega) (gR_f f2)⟩
        · rw [lp_stop (f := fun a => fX4_doActs_l3 T 166 41 (nI w) a.1 a.2) (a := (nI i, Sc)) s1, b1_q]
          rfl
        · rw [zI_eqn (by decide)]; exact hw1.2.1
        · rw [zI_eqn (by decide)]; exact hw1.2.2.2
        · refine lfP_eq rel1.1 ?_ ?_ ?_ <;> (try intro u _) <;> simp (decide := true) only [zI_ne, zI_eqn]
        · refine lfT_eq rel1.2.1 ?_ ?_ ?_ ?_ ?_ ?_ ?_ ?_ <;> (try intro u) <;> simp (decide := true) only [zI_ne, zI_eqn]
        · unfold lfC
          rw [zI_eqn (by decide), zI_eqn (by decide)]
          exact rel1.2.2.1
        · unfold lfL
          rw [zI_eqn (by decide), zI_eqn (by decide)]
          exact rel1.2.2.2
        · have hd1 := lfD_f hd f1 f2
          unfold lfD
          simp (decide := true) only [zI_eqn, zI_ne]
          exact hd1
      · rw [if_neg (by decide)] at s1 s2
        unfold fX12_goesBy_b169 at s2
        rw [let_q, let_q, n_addL] at s2
        have gz : fR Sr1 (zI Sr1 187 49 (-1)) ∨ True := Or.inr trivial
        have eqS : ∀ a b, (zI Sr1 187 49 (-1)).1 a b = Sr1.1 a b := by
          intro a b
          rw [zI_at]
          by_cases z : a = 187 ∧ b = 49
          · rw [if_pos z, z.1, z.2]; exact hw1.2.2.1.symm
          · rw [if_neg z]
        have eqS' : zI Sr1 187 49 (-1) = Sr1 := Prod.ext (funext fun a => funext fun b => eqS a b) rfl
        rw [eqS'] at s2
        obtain ⟨n', x, Sc', Sr', g1, g2, g3, g4, g5, g6, g7⟩ := ih (i + 1) Sc1 Sr1 (by omega) (bkC_fC f1 hc) (bkR_fR f2 hr) (rwC_g (gC_f f1) rc) (rwR_g (gR_f f2) rr) (by rw [show ((i + 1 : Nat) : Int) = (i : Int) + 1 by omega]; exact rel1) hw1 (lfD_f hd f1 f2)
        refine ⟨n', x, Sc', Sr', ?_, lp_go s2 g2, g3, g4, g5, gC_tr (gC_f f1) g6, gR_tr (gR_f f2) g7⟩
        cases hl : lp (fun a => fX4_doActs_l3 T 166 41 (nI w) a.1 a.2) (nI (i + 1), Sc1) with
        | none => rw [hl] at g1; cases g1
        | some e =>
          rw [lp_go (f := fun a => fX4_doActs_l3 T 166 41 (nI w) a.1 a.2) (a := (nI i, Sc)) (a' := (nI (i + 1), Sc1)) s1 hl]
          rw [hl] at g1
          exact g1
    · rw [if_neg q] at s1 s2
      refine ⟨i, nI i, Sc, Sr, ?_, lp_stop s2, by omega, Or.inl ⟨rfl, hwl, rel⟩, hd, gC_refl, gR_refl⟩
      rw [lp_stop (f := fun a => fX4_doActs_l3 T 166 41 (nI w) a.1 a.2) (a := (nI i, Sc)) s1, b1_q]
      rfl
end
