/-! FRAMES: what a function leaves as it was. zwl o Q: if o answers, its answer has Q -/
def zwl {β : Type _} (o : Option β) (Q : β → Prop) : Prop := ∀ b, o = some b → Q b
theorem zwl_r {β : Type _} {b : β} {Q : β → Prop} (h : Q b) : zwl (some b) Q := fun b' e => (by rw [← Option.some.inj e]; exact h)
theorem zwl_tt {β : Type _} {o : Option β} {Q : β → Prop} (h : ∀ b, Q b) : zwl o Q := fun b _ => h b
theorem zwl_v {α : Type _} {β : Type _} {e : α} {k : α → Option β} {Q : β → Prop} (h : ∀ x, zwl (k x) Q) : zwl (zlet e k) Q := h e
theorem zwl_sIa {β : Type _} {S S0 : zS} {c i : Nat} {x : Int32} {a b : Nat} {k : zS → Option β} {Q : β → Prop} (h : ¬ a = c) (hS : S.1 a b = S0.1 a b) (hk : ∀ S1 : zS, S1.1 a b = S0.1 a b → zwl (k S1) Q) : zwl (zlet (zI S c i x) k) Q := hk _ (by rw [zI_at, if_neg (fun q => h q.1)]; exact hS)
theorem zwl_sIf {β : Type _} {S S0 : zS} {c i : Nat} {x : Int32} {a b : Nat} {k : zS → Option β} {Q : β → Prop} (h : ¬ (a = c ∧ b = i)) (hS : S.1 a b = S0.1 a b) (hk : ∀ S1 : zS, S1.1 a b = S0.1 a b → zwl (k S1) Q) : zwl (zlet (zI S c i x) k) Q := hk _ (by rw [zI_at, if_neg h]; exact hS)
theorem zwl_sJa {β : Type _} {S S0 : zS} {c i : Nat} {x : Int64} {a b : Nat} {k : zS → Option β} {Q : β → Prop} (h : ¬ a = c) (hS : S.2 a b = S0.2 a b) (hk : ∀ S1 : zS, S1.2 a b = S0.2 a b → zwl (k S1) Q) : zwl (zlet (zJ S c i x) k) Q := hk _ (by rw [zJ_at, if_neg (fun q => h q.1)]; exact hS)
theorem zwl_sJf {β : Type _} {S S0 : zS} {c i : Nat} {x : Int64} {a b : Nat} {k : zS → Option β} {Q : β → Prop} (h : ¬ (a = c ∧ b = i)) (hS : S.2 a b = S0.2 a b) (hk : ∀ S1 : zS, S1.2 a b = S0.2 a b → zwl (k S1) Q) : zwl (zlet (zJ S c i x) k) Q := hk _ (by rw [zJ_at, if_neg h]; exact hS)
theorem zwl_sIn {β : Type _} {S S0 : zS} {c i : Nat} {x : Int64} {a b : Nat} {k : zS → Option β} {Q : β → Prop} (hS : S.1 a b = S0.1 a b) (hk : ∀ S1 : zS, S1.1 a b = S0.1 a b → zwl (k S1) Q) : zwl (zlet (zJ S c i x) k) Q := hk _ hS
theorem zwl_sJn {β : Type _} {S S0 : zS} {c i : Nat} {x : Int32} {a b : Nat} {k : zS → Option β} {Q : β → Prop} (hS : S.2 a b = S0.2 a b) (hk : ∀ S1 : zS, S1.2 a b = S0.2 a b → zwl (k S1) Q) : zwl (zlet (zI S c i x) k) Q := hk _ hS
theorem zwl_g {β : Type _} {c : Bool} {k : Option β} {Q : β → Prop} (h : zwl k Q) : zwl (zgd c k) Q := fun b e => h b (zgd_elim e).2
theorem zwl_i {β : Type _} {c : Prop} [Decidable c] {x y : Option β} {Q : β → Prop} (h : zwl x Q) (h' : zwl y Q) : zwl (if c then x else y) Q := by
  by_cases hc : c
  · rw [if_pos hc]; exact h
  · rw [if_neg hc]; exact h'
theorem zwl_b {α : Type _} {β : Type _} {o : Option (α × zS)} {k : α → zS → Option β} {P : α × zS → Prop} {Q : β → Prop} (h : zwl o P) (hk : ∀ r S, P (r, S) → zwl (k r S) Q) : zwl (zb o k) Q := by
  intro b e
  obtain ⟨r, S, e1, e2⟩ := zb_elim e
  exact hk r S (h _ e1) b e2
theorem zwl_b1 {α : Type _} {β : Type _} {o : Option α} {k : α → Option β} {P : α → Prop} {Q : β → Prop} (h : zwl o P) (hk : ∀ r, P r → zwl (k r) Q) : zwl (zb1 o k) Q := by
  intro b e
  obtain ⟨r, e1, e2⟩ := zb1_elim e
  exact hk r (h _ e1) b e2
theorem zwl_t {α : Type _} {β : Type _} {o : Option α} {k : α → Option β} {Q : β → Prop} (hk : ∀ r, zwl (k r) Q) : zwl (zb1 o k) Q := zwl_b1 (P := fun _ => True) (fun _ _ => trivial) (fun r _ => hk r)
theorem zwl_m {α : Type _} {β : Type _} {γ : Type _} {e : α ⊕ β} {f : α → Option γ} {k : β → Option γ} {P : α → Prop} {P' : β → Prop} {Q : γ → Prop} (h : Sum.elim P P' e) (h1 : ∀ x, P x → zwl (f x) Q) (h2 : ∀ x, P' x → zwl (k x) Q) : zwl (zsm e f k) Q := by
  cases e with
  | inl x => exact h1 x h
  | inr x => exact h2 x h
theorem zwl_mt {α : Type _} {β : Type _} {γ : Type _} {e : α ⊕ β} {f : α → Option γ} {k : β → Option γ} {Q : γ → Prop} (h1 : ∀ x, zwl (f x) Q) (h2 : ∀ x, zwl (k x) Q) : zwl (zsm e f k) Q := by
  cases e with
  | inl x => exact h1 x
  | inr x => exact h2 x
theorem zwl_lp {α : Type _} {β : Type _} {f : α → Option (α ⊕ β)} {I : α → Prop} {Q : β → Prop} (h : ∀ a, I a → zwl (f a) (Sum.elim I Q)) {a : α} (ha : I a) : zwl (lp f a) Q := by
  intro e he
  obtain ⟨n, hn⟩ := lp_some he
  clear he
  induction n generalizing a with
  | zero => cases hn
  | succ n ih =>
    rcases lpn_succ hn with ⟨a', h1, h2⟩ | h1
    · exact ih (h a ha _ h1) h2
    · exact h a ha _ h1
theorem zCp_ne {S : zS} {c d i j n : Nat} {a b : Nat} (h : ¬ a = d) : (zCp S c d i j n).1 a b = S.1 a b := by rw [zCp_other h]
theorem zwl_sIC {β : Type _} {S S0 : zS} {c d i j n : Nat} {a b : Nat} {k : zS → Option β} {Q : β → Prop} (h : ¬ a = d) (hS : S.1 a b = S0.1 a b) (hk : ∀ S1 : zS, S1.1 a b = S0.1 a b → zwl (k S1) Q) : zwl (zlet (zCp S c d i j n) k) Q := hk _ (by rw [zCp_ne h]; exact hS)
theorem zwl_sJnC {β : Type _} {S S0 : zS} {c d i j n : Nat} {a b : Nat} {k : zS → Option β} {Q : β → Prop} (hS : S.2 a b = S0.2 a b) (hk : ∀ S1 : zS, S1.2 a b = S0.2 a b → zwl (k S1) Q) : zwl (zlet (zCp S c d i j n) k) Q := hk _ hS
set_option maxHeartbeats 40000 in
set_option maxRecDepth 100000 in
theorem wI_X0_tellThing_b52 {T : zT} {S S0 : zS} {a b : Nat}  (hS : S.1 a b = S0.1 a b) : zwl (fX0_tellThing_b52 T S) (fun q0 => q0.2.1 a b = S0.1 a b) := by
  unfold fX0_tellThing_b52
  exact zwl_r hS
set_option maxHeartbeats 40000 in
set_option maxRecDepth 100000 in
theorem wI_X0_tellThing {T : zT} {k0 : Nat} {x1 : Int32} {x2 : Int32} {x3 : Int32} {S S0 : zS} {a b : Nat} (h0 : ¬ a = zr T k0 6) (h1 : ¬ a = zr T k0 7) (h2 : ¬ a = zr T k0 8) (h3 : ¬ a = zr T k0 9) (h4 : ¬ a = zr T k0 10) (h5 : ¬ a = zr T k0 11) (hS : S.1 a b = S0.1 a b) : zwl (fX0_tellThing T k0 x1 x2 x3 S) (fun q0 => q0.2.1 a b = S0.1 a b) := by
  unfold fX0_tellThing
  refine zwl_i ?_ ?_
  · exact (wI_X0_tellThing_b52  hS)
  · refine zwl_i ?_ ?_
    · exact (wI_X0_tellThing_b52  hS)
    · refine zwl_g ?_
      refine zwl_sIa h0 hS (fun S4 e1 => ?_)
      refine zwl_g ?_
      refine zwl_sIa h1 e1 (fun S6 e2 => ?_)
      refine zwl_g ?_
      refine zwl_sIa h2 e2 (fun S8 e3 => ?_)
      refine zwl_g ?_
      refine zwl_sIa h3 e3 (fun S10 e4 => ?_)
      refine zwl_g ?_
      refine zwl_sIa h4 e4 (fun S12 e5 => ?_)
      refine zwl_g ?_
      refine zwl_sIa h5 e5 (fun S14 e6 => ?_)
      exact (wI_X0_tellThing_b52  e6)
set_option maxHeartbeats 40000 in
set_option maxRecDepth 100000 in
theorem wI_X1_add_b49 {T : zT} {S S0 : zS} {a b : Nat}  (hS : S.1 a b = S0.1 a b) : zwl (fX1_add_b49 T S) (fun q0 => q0.2.1 a b = S0.1 a b) := by
  unfold fX1_add_b49
  exact zwl_r hS
set_option maxHeartbeats 40000 in
set_option maxRecDepth 100000 in
theorem wI_X1_add {T : zT} {k0 : Nat} {x1 : Int32} {x2 : Int32} {x3 : Int32} {S S0 : zS} {a b : Nat} (h0 : ¬ a = zr T k0 0) (h1 : ¬ a = zr T k0 1) (h2 : ¬ a = zr T k0 2) (h3 : ¬ (a = k0 ∧ b = 3)) (hS : S.1 a b = S0.1 a b) : zwl (fX1_add T k0 x1 x2 x3 S) (fun q0 => q0.2.1 a b = S0.1 a b) := by
  unfold fX1_add
  refine zwl_i ?_ ?_
  · exact (wI_X1_add_b49  hS)
  · refine zwl_g ?_
    refine zwl_sIa h0 hS (fun S3 e1 => ?_)
    refine zwl_g ?_
    refine zwl_sIa h1 e1 (fun S5 e2 => ?_)
    refine zwl_g ?_
    refine zwl_sIa h2 e2 (fun S7 e3 => ?_)
    refine zwl_sIf h3 e3 (fun S8 e4 => ?_)
    exact (wI_X1_add_b49  e4)
set_option maxHeartbeats 40000 in
set_option maxRecDepth 100000 in
theorem wI_X2_clear {T : zT} {k0 : Nat} {S S0 : zS} {a b : Nat} (h0 : ¬ (a = k0 ∧ b = 1)) (h1 : ¬ (a = k0 ∧ b = 2)) (hS : S.1 a b = S0.1 a b) : zwl (fX2_clear T k0 S) (fun q0 => q0.2.1 a b = S0.1 a b) := by
  unfold fX2_clear
  refine zwl_sIf h0 hS (fun S1 e1 => ?_)
  refine zwl_sIf h1 e1 (fun S2 e2 => ?_)
  exact zwl_r e2
set_option maxHeartbeats 40000 in
set_option maxRecDepth 100000 in
theorem wI_X2_add_b56 {T : zT} {S S0 : zS} {a b : Nat}  (hS : S.1 a b = S0.1 a b) : zwl (fX2_add_b56 T S) (fun q0 => q0.2.1 a b = S0.1 a b) := by
  unfold fX2_add_b56
  exact zwl_r hS
set_option maxHeartbeats 40000 in
set_option maxRecDepth 100000 in
theorem wI_X2_add_b38 {T : zT} {k0 : Nat} {x1 : Int32} {x2 : Int32} {S S0 : zS} {a b : Nat} (h0 : ¬ (a = k0 ∧ b = 2)) (hS : S.1 a b = S0.1 a b) : zwl (fX2_add_b38 T k0 x1 x2 S) (fun q0 => q0.2.1 a b = S0.1 a b) := by
  unfold fX2_add_b38
  refine zwl_i ?_ ?_
  · refine zwl_sIf h0 hS (fun S3 e1 => ?_)
    exact (wI_X2_add_b56  e1)
  · exact (wI_X2_add_b56  hS)
set_option maxHeartbeats 40000 in
set_option maxRecDepth 100000 in
theorem wI_X2_add {T : zT} {k0 : Nat} {x1 : Int32} {x2 : Int32} {S S0 : zS} {a b : Nat} (h0 : ¬ (a = k0 ∧ b = 2)) (h1 : ¬ a = zr T k0 0) (h2 : ¬ (a = k0 ∧ b = 1)) (hS : S.1 a b = S0.1 a b) : zwl (fX2_add T k0 x1 x2 S) (fun q0 => q0.2.1 a b = S0.1 a b) := by
  unfold fX2_add
  refine zwl_i ?_ ?_
  · exact (wI_X2_add_b38 h0 hS)
  · refine zwl_g ?_
    refine zwl_sIa h1 hS (fun S5 e1 => ?_)
    refine zwl_sIf h2 e1 (fun S6 e2 => ?_)
    exact (wI_X2_add_b38 h0 e2)
set_option maxHeartbeats 40000 in
set_option maxRecDepth 100000 in
theorem wI_X3_work_b56 {T : zT} {k0 : Nat} {x1 : Int32} {x2 : Int32} {l3 : Int64} {x5 : Int32} {S S0 : zS} {a b : Nat}  (hS : S.1 a b = S0.1 a b) : zwl (fX3_work_b56 T k0 x1 x2 l3 x5 S) (Sum.elim (fun q1 => q1.2.2.1 a b = S0.1 a b) (fun q1 => q1.2.1 a b = S0.1 a b)) := by
  unfold fX3_work_b56
  refine zwl_v (fun u4 => ?_)
  exact zwl_r hS
set_option maxHeartbeats 40000 in
set_option maxRecDepth 100000 in
theorem wI_X3_work_l5 {T : zT} {k0 : Nat} {x1 : Int32} {x2 : Int32} {l3 : Int64} {x5 : Int32} {S S0 : zS} {a b : Nat}  (hS : S.1 a b = S0.1 a b) : zwl (fX3_work_l5 T k0 x1 x2 l3 x5 S) (Sum.elim (fun q1 => q1.2.2.1 a b = S0.1 a b) (fun q1 => q1.2.1 a b = S0.1 a b)) := by
  unfold fX3_work_l5
  refine zwl_i ?_ ?_
  · exact zwl_r hS
  · refine zwl_sIn hS (fun S2 e1 => ?_)
    refine zwl_i ?_ ?_
    · exact (wI_X3_work_b56  e1)
    · refine zwl_v (fun w5 => ?_)
      exact (wI_X3_work_b56  e1)
set_option maxHeartbeats 40000 in
set_option maxRecDepth 100000 in
theorem wI_X3_work {T : zT} {k0 : Nat} {x1 : Int32} {x2 : Int32} {S S0 : zS} {a b : Nat}  (hS : S.1 a b = S0.1 a b) : zwl (fX3_work T k0 x1 x2 S) (fun q0 => q0.2.1 a b = S0.1 a b) := by
  unfold fX3_work
  refine zwl_b1 (zwl_lp (I := (fun q0 => q0.2.2.1 a b = S0.1 a b)) (Q := (fun q0 => q0.2.1 a b = S0.1 a b)) (fun a e3 => (wI_X3_work_l5  e3)) hS) (fun e6 e1 => ?_)
  exact zwl_r e1
set_option maxHeartbeats 40000 in
set_option maxRecDepth 100000 in
theorem wI_X4_begin_l48 {T : zT} {k0 : Nat} {x1 : Int32} {S S0 : zS} {a b : Nat} (h0 : ¬ a = zr T k0 12) (h1 : ¬ a = zr T k0 13) (h2 : ¬ a = zr T k0 14) (h3 : ¬ a = zr T k0 11) (hS : S.1 a b = S0.1 a b) : zwl (fX4_begin_l48 T k0 x1 S) (Sum.elim (fun q1 => q1.2.1 a b = S0.1 a b) (fun q1 => q1.1 a b = S0.1 a b)) := by
  unfold fX4_begin_l48
  refine zwl_i ?_ ?_
  · exact zwl_r hS
  · refine zwl_g ?_
    refine zwl_g ?_
    refine zwl_sIa h0 hS (fun S12 e1 => ?_)
    refine zwl_g ?_
    refine zwl_g ?_
    refine zwl_sIa h1 e1 (fun S15 e2 => ?_)
    refine zwl_g ?_
    refine zwl_sIa h2 e2 (fun S17 e3 => ?_)
    refine zwl_g ?_
    refine zwl_sIa h3 e3 (fun S19 e4 => ?_)
    refine zwl_v (fun u20 => ?_)
    exact zwl_r e4
set_option maxHeartbeats 40000 in
set_option maxRecDepth 100000 in
theorem wI_X4_begin {T : zT} {k0 : Nat} {S S0 : zS} {a b : Nat} (h0 : ¬ (a = k0 ∧ b = 3)) (h1 : ¬ (a = k0 ∧ b = 4)) (h2 : ¬ (a = k0 ∧ b = 5)) (h3 : ¬ (a = k0 ∧ b = 6)) (h4 : ¬ (a = k0 ∧ b = 7)) (h5 : ¬ (a = k0 ∧ b = 8)) (h6 : ¬ (a = k0 ∧ b = 15)) (h7 : ¬ (a = k0 ∧ b = 16)) (h8 : ¬ a = zr T k0 12) (h9 : ¬ a = zr T k0 13) (h10 : ¬ a = zr T k0 14) (h11 : ¬ a = zr T k0 11) (hS : S.1 a b = S0.1 a b) : zwl (fX4_begin T k0 S) (fun q0 => q0.2.1 a b = S0.1 a b) := by
  unfold fX4_begin
  refine zwl_sIf h0 hS (fun S1 e1 => ?_)
  refine zwl_sIf h1 e1 (fun S2 e2 => ?_)
  refine zwl_sIf h2 e2 (fun S3 e3 => ?_)
  refine zwl_sIf h3 e3 (fun S4 e4 => ?_)
  refine zwl_sIf h4 e4 (fun S5 e5 => ?_)
  refine zwl_sIf h5 e5 (fun S6 e6 => ?_)
  refine zwl_sIf h6 e6 (fun S7 e7 => ?_)
  refine zwl_sIf h7 e7 (fun S8 e8 => ?_)
  refine zwl_b1 (zwl_lp (I := (fun q0 => q0.2.1 a b = S0.1 a b)) (Q := (fun q0 => q0.1 a b = S0.1 a b)) (fun a e11 => (wI_X4_begin_l48 h8 h9 h10 h11 e11)) e8) (fun e21 e9 => ?_)
  exact zwl_r e9
set_option maxHeartbeats 40000 in
set_option maxRecDepth 100000 in
theorem wI_X4_putOne_b21 {T : zT} {S S0 : zS} {a b : Nat}  (hS : S.1 a b = S0.1 a b) : zwl (fX4_putOne_b21 T S) (fun q0 => q0.2.1 a b = S0.1 a b) := by
  unfold fX4_putOne_b21
  exact zwl_r hS
set_option maxHeartbeats 40000 in
set_option maxRecDepth 100000 in
theorem wI_X4_putOne {T : zT} {k0 : Nat} {x1 : Int32} {x2 : Int32} {S S0 : zS} {a b : Nat} (h0 : ¬ (a = k0 ∧ b = 4)) (h1 : ¬ (a = k0 ∧ b = 15)) (h2 : ¬ (a = k0 ∧ b = 3)) (h3 : ¬ a = zr T k0 12) (h4 : ¬ a = zr T k0 13) (h5 : ¬ a = zr T k0 14) (hS : S.1 a b = S0.1 a b) : zwl (fX4_putOne T k0 x1 x2 S) (fun q0 => q0.2.1 a b = S0.1 a b) := by
  unfold fX4_putOne
  refine zwl_i ?_ ?_
  · exact (wI_X4_putOne_b21  hS)
  · refine zwl_i ?_ ?_
    · exact (wI_X4_putOne_b21  hS)
    · refine zwl_i ?_ ?_
      · exact (wI_X4_putOne_b21  hS)
      · refine zwl_sIf h0 hS (fun S4 e1 => ?_)
        refine zwl_sIf h1 e1 (fun S5 e2 => ?_)
        refine zwl_g ?_
        refine zwl_sIf h2 e2 (fun S7 e3 => ?_)
        refine zwl_g ?_
        refine zwl_g ?_
        refine zwl_sIa h3 e3 (fun S10 e4 => ?_)
        refine zwl_g ?_
        refine zwl_g ?_
        refine zwl_sIa h4 e4 (fun S13 e5 => ?_)
        refine zwl_g ?_
        refine zwl_sIa h5 e5 (fun S15 e6 => ?_)
        exact zwl_r e6
set_option maxHeartbeats 40000 in
set_option maxRecDepth 100000 in
theorem wI_X5_countStates_b49 {T : zT} {k0 : Nat} {x1 : Int32} {S S0 : zS} {a b : Nat}  (hS : S.1 a b = S0.1 a b) : zwl (fX5_countStates_b49 T k0 x1 S) (Sum.elim (fun q1 => q1.2.1 a b = S0.1 a b) (fun q1 => q1.1 a b = S0.1 a b)) := by
  unfold fX5_countStates_b49
  refine zwl_v (fun u5 => ?_)
  exact zwl_r hS
set_option maxHeartbeats 40000 in
set_option maxRecDepth 100000 in
theorem wI_X5_countStates_l2 {T : zT} {k0 : Nat} {x1 : Int32} {S S0 : zS} {a b : Nat} (h0 : ¬ (a = k0 ∧ b = 5)) (h1 : ¬ (a = k0 ∧ b = 6)) (hS : S.1 a b = S0.1 a b) : zwl (fX5_countStates_l2 T k0 x1 S) (Sum.elim (fun q1 => q1.2.1 a b = S0.1 a b) (fun q1 => q1.1 a b = S0.1 a b)) := by
  unfold fX5_countStates_l2
  refine zwl_i ?_ ?_
  · exact zwl_r hS
  · refine zwl_i ?_ ?_
    · exact zwl_r hS
    · refine zwl_g ?_
      refine zwl_i ?_ ?_
      · exact (wI_X5_countStates_b49  hS)
      · refine zwl_sIf h0 hS (fun S6 e1 => ?_)
        refine zwl_sIf h1 e1 (fun S7 e2 => ?_)
        exact (wI_X5_countStates_b49  e2)
set_option maxHeartbeats 40000 in
set_option maxRecDepth 100000 in
theorem wI_X5_countStates_b55 {T : zT} {S S0 : zS} {a b : Nat}  (hS : S.1 a b = S0.1 a b) : zwl (fX5_countStates_b55 T S) (fun q0 => q0.2.1 a b = S0.1 a b) := by
  unfold fX5_countStates_b55
  exact zwl_r hS
set_option maxHeartbeats 40000 in
set_option maxRecDepth 100000 in
theorem wI_X5_countStates {T : zT} {k0 : Nat} {S S0 : zS} {a b : Nat} (h0 : ¬ (a = k0 ∧ b = 5)) (h1 : ¬ (a = k0 ∧ b = 6)) (hS : S.1 a b = S0.1 a b) : zwl (fX5_countStates T k0 S) (fun q0 => q0.2.1 a b = S0.1 a b) := by
  unfold fX5_countStates
  refine zwl_b1 (zwl_lp (I := (fun q0 => q0.2.1 a b = S0.1 a b)) (Q := (fun q0 => q0.1 a b = S0.1 a b)) (fun a e3 => (wI_X5_countStates_l2 h0 h1 e3)) hS) (fun e8 e1 => ?_)
  exact (wI_X5_countStates_b55  e1)
set_option maxHeartbeats 40000 in
set_option maxRecDepth 100000 in
theorem wI_X5_start_b20 {T : zT} {k0 : Nat} {n0 : Nat} {x1 : Int32} {x2 : Int32} {x3 : Int32} {s0 : Int32} {s1 : Int32} {s2 : Nat} {m2 : Nat} {S S0 : zS} {a b : Nat} (h0 : ¬ a = s2) (hS : S.1 a b = S0.1 a b) : zwl (fX5_start_b20 T k0 n0 x1 x2 x3 s0 s1 s2 m2 S) (Sum.elim (fun q1 => q1.2.1 a b = S0.1 a b) (fun q1 => q1.1 a b = S0.1 a b)) := by
  unfold fX5_start_b20
  refine zwl_g ?_
  refine zwl_sIa h0 hS (fun S4 e1 => ?_)
  refine zwl_v (fun u5 => ?_)
  exact zwl_r e1
set_option maxHeartbeats 40000 in
set_option maxRecDepth 100000 in
theorem wI_X5_start_l2 {T : zT} {k0 : Nat} {n0 : Nat} {x1 : Int32} {x2 : Int32} {x3 : Int32} {S S0 : zS} {a b : Nat} (h0 : ¬ a = k0) (hS : S.1 a b = S0.1 a b) : zwl (fX5_start_l2 T k0 n0 x1 x2 x3 S) (Sum.elim (fun q1 => q1.2.1 a b = S0.1 a b) (fun q1 => q1.1 a b = S0.1 a b)) := by
  unfold fX5_start_l2
  refine zwl_i ?_ ?_
  · exact zwl_r hS
  · refine zwl_i ?_ ?_
    · exact (wI_X5_start_b20 h0 hS)
    · exact (wI_X5_start_b20 h0 hS)
set_option maxHeartbeats 40000 in
set_option maxRecDepth 100000 in
theorem wI_X5_start {T : zT} {k0 : Nat} {n0 : Nat} {x1 : Int32} {x2 : Int32} {S S0 : zS} {a b : Nat} (h0 : ¬ a = k0) (hS : S.1 a b = S0.1 a b) : zwl (fX5_start T k0 n0 x1 x2 S) (fun q0 => q0.2.1 a b = S0.1 a b) := by
  unfold fX5_start
  refine zwl_b1 (zwl_lp (I := (fun q0 => q0.2.1 a b = S0.1 a b)) (Q := (fun q0 => q0.1 a b = S0.1 a b)) (fun a e3 => (wI_X5_start_l2 h0 e3)) hS) (fun e6 e1 => ?_)
  exact zwl_r e1
set_option maxHeartbeats 40000 in
set_option maxRecDepth 100000 in
theorem wI_X6_next_b85 {T : zT} {S S0 : zS} {a b : Nat}  (hS : S.1 a b = S0.1 a b) : zwl (fX6_next_b85 T S) (fun q0 => q0.2.1 a b = S0.1 a b) := by
  unfold fX6_next_b85
  exact zwl_r hS
set_option maxHeartbeats 40000 in
set_option maxRecDepth 100000 in
theorem wI_X6_next_b27 {T : zT} {k0 : Nat} {S S0 : zS} {a b : Nat} (h0 : ¬ (a = k0 ∧ b = 1)) (h1 : ¬ (a = k0 ∧ b = 2)) (h2 : ¬ (a = k0 ∧ b = 3)) (h3 : ¬ (a = k0 ∧ b = 4)) (hS : S.1 a b = S0.1 a b) : zwl (fX6_next_b27 T k0 S) (fun q0 => q0.2.1 a b = S0.1 a b) := by
  unfold fX6_next_b27
  refine zwl_sIf h0 hS (fun S2 e1 => ?_)
  refine zwl_g ?_
  refine zwl_sIf h1 e1 (fun S4 e2 => ?_)
  refine zwl_g ?_
  refine zwl_sIf h2 e2 (fun S6 e3 => ?_)
  refine zwl_g ?_
  refine zwl_sIf h3 e3 (fun S8 e4 => ?_)
  exact (wI_X6_next_b85  e4)
set_option maxHeartbeats 40000 in
set_option maxRecDepth 100000 in
theorem wI_X6_next {T : zT} {k0 : Nat} {S S0 : zS} {a b : Nat} (h0 : ¬ (a = k0 ∧ b = 1)) (h1 : ¬ (a = k0 ∧ b = 2)) (h2 : ¬ (a = k0 ∧ b = 3)) (h3 : ¬ (a = k0 ∧ b = 4)) (hS : S.1 a b = S0.1 a b) : zwl (fX6_next T k0 S) (fun q0 => q0.2.1 a b = S0.1 a b) := by
  unfold fX6_next
  refine zwl_i ?_ ?_
  · exact (wI_X6_next_b27 h0 h1 h2 h3 hS)
  · refine zwl_i ?_ ?_
    · exact (wI_X6_next_b85  hS)
    · refine zwl_i ?_ ?_
      · exact (wI_X6_next_b85  hS)
      · exact (wI_X6_next_b27 h0 h1 h2 h3 hS)
set_option maxHeartbeats 40000 in
set_option maxRecDepth 100000 in
theorem wI_X6_fail_b22 {T : zT} {S S0 : zS} {a b : Nat}  (hS : S.1 a b = S0.1 a b) : zwl (fX6_fail_b22 T S) (fun q0 => q0.2.1 a b = S0.1 a b) := by
  unfold fX6_fail_b22
  exact zwl_r hS
set_option maxHeartbeats 40000 in
set_option maxRecDepth 100000 in
theorem wI_X6_fail {T : zT} {k0 : Nat} {x1 : Int32} {S S0 : zS} {a b : Nat} (h0 : ¬ (a = k0 ∧ b = 5)) (hS : S.1 a b = S0.1 a b) : zwl (fX6_fail T k0 x1 S) (fun q0 => q0.2.1 a b = S0.1 a b) := by
  unfold fX6_fail
  refine zwl_i ?_ ?_
  · refine zwl_sIf h0 hS (fun S2 e1 => ?_)
    exact (wI_X6_fail_b22  e1)
  · exact (wI_X6_fail_b22  hS)
set_option maxHeartbeats 40000 in
set_option maxRecDepth 100000 in
theorem wI_X7_add_b49 {T : zT} {S S0 : zS} {a b : Nat}  (hS : S.1 a b = S0.1 a b) : zwl (fX7_add_b49 T S) (fun q0 => q0.2.1 a b = S0.1 a b) := by
  unfold fX7_add_b49
  exact zwl_r hS
set_option maxHeartbeats 40000 in
set_option maxRecDepth 100000 in
theorem wI_X7_add {T : zT} {k0 : Nat} {x1 : Int32} {x2 : Int32} {x3 : Int32} {S S0 : zS} {a b : Nat} (h0 : ¬ a = zr T k0 0) (h1 : ¬ a = zr T k0 1) (h2 : ¬ a = zr T k0 2) (h3 : ¬ (a = k0 ∧ b = 3)) (hS : S.1 a b = S0.1 a b) : zwl (fX7_add T k0 x1 x2 x3 S) (fun q0 => q0.2.1 a b = S0.1 a b) := by
  unfold fX7_add
  refine zwl_i ?_ ?_
  · exact (wI_X7_add_b49  hS)
  · refine zwl_g ?_
    refine zwl_sIa h0 hS (fun S3 e1 => ?_)
    refine zwl_g ?_
    refine zwl_sIa h1 e1 (fun S5 e2 => ?_)
    refine zwl_g ?_
    refine zwl_sIa h2 e2 (fun S7 e3 => ?_)
    refine zwl_sIf h3 e3 (fun S8 e4 => ?_)
    exact (wI_X7_add_b49  e4)
set_option maxHeartbeats 40000 in
set_option maxRecDepth 100000 in
theorem wI_X8_add_b39 {T : zT} {S S0 : zS} {a b : Nat}  (hS : S.1 a b = S0.1 a b) : zwl (fX8_add_b39 T S) (fun q0 => q0.2.1 a b = S0.1 a b) := by
  unfold fX8_add_b39
  exact zwl_r hS
set_option maxHeartbeats 40000 in
set_option maxRecDepth 100000 in
theorem wI_X8_add {T : zT} {k0 : Nat} {x1 : Int32} {x2 : Int32} {S S0 : zS} {a b : Nat} (h0 : ¬ a = zr T k0 0) (h1 : ¬ a = zr T k0 1) (h2 : ¬ (a = k0 ∧ b = 2)) (hS : S.1 a b = S0.1 a b) : zwl (fX8_add T k0 x1 x2 S) (fun q0 => q0.2.1 a b = S0.1 a b) := by
  unfold fX8_add
  refine zwl_i ?_ ?_
  · exact (wI_X8_add_b39  hS)
  · refine zwl_g ?_
    refine zwl_sIa h0 hS (fun S3 e1 => ?_)
    refine zwl_g ?_
    refine zwl_sIa h1 e1 (fun S5 e2 => ?_)
    refine zwl_sIf h2 e2 (fun S6 e3 => ?_)
    exact (wI_X8_add_b39  e3)
set_option maxHeartbeats 40000 in
set_option maxRecDepth 100000 in
theorem wI_X10_add_b50 {T : zT} {S S0 : zS} {a b : Nat}  (hS : S.1 a b = S0.1 a b) : zwl (fX10_add_b50 T S) (fun q0 => q0.2.1 a b = S0.1 a b) := by
  unfold fX10_add_b50
  exact zwl_r hS
set_option maxHeartbeats 40000 in
set_option maxRecDepth 100000 in
theorem wI_X10_add {T : zT} {k0 : Nat} {x1 : Int32} {x2 : Int32} {x3 : Int32} {S S0 : zS} {a b : Nat} (h0 : ¬ a = zr T k0 0) (h1 : ¬ a = zr T k0 1) (h2 : ¬ a = zr T k0 2) (h3 : ¬ (a = k0 ∧ b = 3)) (hS : S.1 a b = S0.1 a b) : zwl (fX10_add T k0 x1 x2 x3 S) (fun q0 => q0.2.1 a b = S0.1 a b) := by
  unfold fX10_add
  refine zwl_i ?_ ?_
  · exact (wI_X10_add_b50  hS)
  · refine zwl_g ?_
    refine zwl_sIa h0 hS (fun S3 e1 => ?_)
    refine zwl_g ?_
    refine zwl_sIa h1 e1 (fun S5 e2 => ?_)
    refine zwl_g ?_
    refine zwl_sIa h2 e2 (fun S7 e3 => ?_)
    refine zwl_sIf h3 e3 (fun S8 e4 => ?_)
    exact (wI_X10_add_b50  e4)
set_option maxHeartbeats 40000 in
set_option maxRecDepth 100000 in
theorem wI_X11_putBytes_b43 {T : zT} {k0 : Nat} {x1 : Int32} {x2 : Int32} {S S0 : zS} {a b : Nat}  (hS : S.1 a b = S0.1 a b) : zwl (fX11_putBytes_b43 T k0 x1 x2 S) (Sum.elim (fun q1 => q1.2.1 a b = S0.1 a b) (fun q1 => q1.1 a b = S0.1 a b)) := by
  unfold fX11_putBytes_b43
  refine zwl_v (fun u3 => ?_)
  exact zwl_r hS
set_option maxHeartbeats 40000 in
set_option maxRecDepth 100000 in
theorem wI_X11_putBytes_l3 {T : zT} {k0 : Nat} {x1 : Int32} {x2 : Int32} {S S0 : zS} {a b : Nat} (h0 : ¬ a = zr T k0 0) (h1 : ¬ (a = k0 ∧ b = 1)) (hS : S.1 a b = S0.1 a b) : zwl (fX11_putBytes_l3 T k0 x1 x2 S) (Sum.elim (fun q1 => q1.2.1 a b = S0.1 a b) (fun q1 => q1.1 a b = S0.1 a b)) := by
  unfold fX11_putBytes_l3
  refine zwl_i ?_ ?_
  · exact zwl_r hS
  · refine zwl_i ?_ ?_
    · exact (wI_X11_putBytes_b43  hS)
    · refine zwl_g ?_
      refine zwl_sIa h0 hS (fun S5 e1 => ?_)
      refine zwl_sIf h1 e1 (fun S6 e2 => ?_)
      exact (wI_X11_putBytes_b43  e2)
set_option maxHeartbeats 40000 in
set_option maxRecDepth 100000 in
theorem wI_X11_putBytes {T : zT} {k0 : Nat} {x1 : Int32} {S S0 : zS} {a b : Nat} (h0 : ¬ a = zr T k0 0) (h1 : ¬ (a = k0 ∧ b = 1)) (hS : S.1 a b = S0.1 a b) : zwl (fX11_putBytes T k0 x1 S) (fun q0 => q0.2.1 a b = S0.1 a b) := by
  unfold fX11_putBytes
  refine zwl_b1 (zwl_lp (I := (fun q0 => q0.2.1 a b = S0.1 a b)) (Q := (fun q0 => q0.1 a b = S0.1 a b)) (fun a e3 => (wI_X11_putBytes_l3 h0 h1 e3)) hS) (fun e7 e1 => ?_)
  exact zwl_r e1
set_option maxHeartbeats 40000 in
set_option maxRecDepth 100000 in
theorem wI_X11_end_b12 {T : zT} {S S0 : zS} {a b : Nat}  (hS : S.1 a b = S0.1 a b) : zwl (fX11_end_b12 T S) (fun q0 => q0.2.1 a b = S0.1 a b) := by
  unfold fX11_end_b12
  exact zwl_r hS
set_option maxHeartbeats 40000 in
set_option maxRecDepth 100000 in
theorem wI_X11_end {T : zT} {k0 : Nat} {x1 : Int32} {S S0 : zS} {a b : Nat} (h0 : ¬ (a = k0 ∧ b = 1)) (hS : S.1 a b = S0.1 a b) : zwl (fX11_end T k0 x1 S) (fun q0 => q0.2.1 a b = S0.1 a b) := by
  unfold fX11_end
  refine zwl_i ?_ ?_
  · exact (wI_X11_end_b12  hS)
  · refine zwl_i ?_ ?_
    · refine zwl_sIf h0 hS (fun S3 e1 => ?_)
      exact zwl_r e1
    · exact (wI_X11_end_b12  hS)
set_option maxHeartbeats 40000 in
set_option maxRecDepth 100000 in
theorem wI_X11_row_b15 {T : zT} {S S0 : zS} {a b : Nat}  (hS : S.1 a b = S0.1 a b) : zwl (fX11_row_b15 T S) (fun q0 => q0.2.1 a b = S0.1 a b) := by
  unfold fX11_row_b15
  exact zwl_r hS
set_option maxHeartbeats 40000 in
set_option maxRecDepth 100000 in
theorem wI_X11_row {T : zT} {k0 : Nat} {x1 : Int32} {S S0 : zS} {a b : Nat} (h0 : ¬ (a = zr T k0 5 ∧ b = 3)) (hS : S.1 a b = S0.1 a b) : zwl (fX11_row T k0 x1 S) (fun q0 => q0.2.1 a b = S0.1 a b) := by
  unfold fX11_row
  refine zwl_i ?_ ?_
  · exact (wI_X11_row_b15  hS)
  · refine zwl_i ?_ ?_
    · refine zwl_sIf h0 hS (fun S3 e1 => ?_)
      exact zwl_r e1
    · exact (wI_X11_row_b15  hS)
set_option maxHeartbeats 40000 in
set_option maxRecDepth 100000 in
theorem wI_X12_clears_l5 {T : zT} {k0 : Nat} {x1 : Int32} {x2 : Int32} {S S0 : zS} {a b : Nat} (h0 : ¬ a = zr T k0 22) (h1 : ¬ a = zr T k0 23) (h2 : ¬ a = zr T k0 24) (h3 : ¬ a = zr T k0 25) (h4 : ¬ a = zr T k0 26) (h5 : ¬ a = zr T k0 27) (h6 : ¬ a = zr T k0 28) (hS : S.1 a b = S0.1 a b) : zwl (fX12_clears_l5 T k0 x1 x2 S) (Sum.elim (fun q1 => q1.2.1 a b = S0.1 a b) (fun q1 => q1.1 a b = S0.1 a b)) := by
  unfold fX12_clears_l5
  refine zwl_i ?_ ?_
  · exact zwl_r hS
  · refine zwl_g ?_
    refine zwl_sIa h0 hS (fun S4 e1 => ?_)
    refine zwl_g ?_
    refine zwl_sIa h1 e1 (fun S6 e2 => ?_)
    refine zwl_g ?_
    refine zwl_sIa h2 e2 (fun S8 e3 => ?_)
    refine zwl_g ?_
    refine zwl_sIa h3 e3 (fun S10 e4 => ?_)
    refine zwl_g ?_
    refine zwl_sIa h4 e4 (fun S12 e5 => ?_)
    refine zwl_g ?_
    refine zwl_sIa h5 e5 (fun S14 e6 => ?_)
    refine zwl_g ?_
    refine zwl_sIa h6 e6 (fun S16 e7 => ?_)
    refine zwl_v (fun u17 => ?_)
    exact zwl_r e7
set_option maxHeartbeats 40000 in
set_option maxRecDepth 100000 in
theorem wI_X12_clears {T : zT} {k0 : Nat} {x1 : Int32} {S S0 : zS} {a b : Nat} (h0 : ¬ a = zr T k0 22) (h1 : ¬ a = zr T k0 23) (h2 : ¬ a = zr T k0 24) (h3 : ¬ a = zr T k0 25) (h4 : ¬ a = zr T k0 26) (h5 : ¬ a = zr T k0 27) (h6 : ¬ a = zr T k0 28) (h7 : ¬ a = zr T k0 29) (h8 : ¬ a = zr T k0 30) (h9 : ¬ a = zr T k0 31) (h10 : ¬ a = zr T k0 32) (h11 : ¬ a = zr T k0 33) (hS : S.1 a b = S0.1 a b) : zwl (fX12_clears T k0 x1 S) (fun q0 => q0.2.1 a b = S0.1 a b) := by
  unfold fX12_clears
  refine zwl_v (fun u1 => ?_)
  refine zwl_b1 (zwl_lp (I := (fun q0 => q0.2.1 a b = S0.1 a b)) (Q := (fun q0 => q0.1 a b = S0.1 a b)) (fun a e3 => (wI_X12_clears_l5 h0 h1 h2 h3 h4 h5 h6 e3)) hS) (fun e18 e1 => ?_)
  refine zwl_g ?_
  refine zwl_sIa h7 e1 (fun S20 e4 => ?_)
  refine zwl_g ?_
  refine zwl_sIa h8 e4 (fun S22 e5 => ?_)
  refine zwl_g ?_
  refine zwl_sIa h9 e5 (fun S24 e6 => ?_)
  refine zwl_g ?_
  refine zwl_sIa h10 e6 (fun S26 e7 => ?_)
  refine zwl_g ?_
  refine zwl_sIa h11 e7 (fun S28 e8 => ?_)
  exact zwl_r e8
set_option maxHeartbeats 40000 in
set_option maxRecDepth 100000 in
theorem wI_X12_put_l3 {T : zT} {k0 : Nat} {x1 : Int32} {x2 : Int32} {S S0 : zS} {a b : Nat} (h0 : ¬ a = zr T k0 11) (h1 : ¬ (a = k0 ∧ b = 1)) (hS : S.1 a b = S0.1 a b) : zwl (fX12_put_l3 T k0 x1 x2 S) (Sum.elim (fun q1 => q1.2.1 a b = S0.1 a b) (fun q1 => q1.1 a b = S0.1 a b)) := by
  unfold fX12_put_l3
  refine zwl_i ?_ ?_
  · exact zwl_r hS
  · refine zwl_g ?_
    refine zwl_sIa h0 hS (fun S3 e1 => ?_)
    refine zwl_sIf h1 e1 (fun S4 e2 => ?_)
    refine zwl_v (fun u5 => ?_)
    exact zwl_r e2
set_option maxHeartbeats 40000 in
set_option maxRecDepth 100000 in
theorem wI_X12_put {T : zT} {k0 : Nat} {x1 : Int32} {S S0 : zS} {a b : Nat} (h0 : ¬ a = zr T k0 11) (h1 : ¬ (a = k0 ∧ b = 1)) (hS : S.1 a b = S0.1 a b) : zwl (fX12_put T k0 x1 S) (fun q0 => q0.2.1 a b = S0.1 a b) := by
  unfold fX12_put
  refine zwl_b1 (zwl_lp (I := (fun q0 => q0.2.1 a b = S0.1 a b)) (Q := (fun q0 => q0.1 a b = S0.1 a b)) (fun a e3 => (wI_X12_put_l3 h0 h1 e3)) hS) (fun e6 e1 => ?_)
  exact zwl_r e1
set_option maxHeartbeats 40000 in
set_option maxRecDepth 100000 in
theorem wI_X12_end_b12 {T : zT} {S S0 : zS} {a b : Nat}  (hS : S.1 a b = S0.1 a b) : zwl (fX12_end_b12 T S) (fun q0 => q0.2.1 a b = S0.1 a b) := by
  unfold fX12_end_b12
  exact zwl_r hS
set_option maxHeartbeats 40000 in
set_option maxRecDepth 100000 in
theorem wI_X12_end {T : zT} {k0 : Nat} {x1 : Int32} {S S0 : zS} {a b : Nat} (h0 : ¬ (a = k0 ∧ b = 1)) (hS : S.1 a b = S0.1 a b) : zwl (fX12_end T k0 x1 S) (fun q0 => q0.2.1 a b = S0.1 a b) := by
  unfold fX12_end
  refine zwl_i ?_ ?_
  · exact (wI_X12_end_b12  hS)
  · refine zwl_i ?_ ?_
    · refine zwl_sIf h0 hS (fun S3 e1 => ?_)
      exact zwl_r e1
    · exact (wI_X12_end_b12  hS)
set_option maxHeartbeats 40000 in
set_option maxRecDepth 100000 in
theorem wI_X12_fails_b23 {T : zT} {s0 : Int32} {s1 : Nat} {S S0 : zS} {a b : Nat} (h0 : ¬ (a = s1 ∧ b = 3)) (hS : S.1 a b = S0.1 a b) : zwl (fX12_fails_b23 T s0 s1 S) (fun q0 => q0.2.1 a b = S0.1 a b) := by
  unfold fX12_fails_b23
  refine zwl_sIf h0 hS (fun S2 e1 => ?_)
  exact zwl_r e1
set_option maxHeartbeats 40000 in
set_option maxRecDepth 100000 in
theorem wI_X12_fails {T : zT} {k0 : Nat} {x1 : Int32} {x2 : Int32} {S S0 : zS} {a b : Nat} (h0 : ¬ (a = k0 ∧ b = 3)) (hS : S.1 a b = S0.1 a b) : zwl (fX12_fails T k0 x1 x2 S) (fun q0 => q0.2.1 a b = S0.1 a b) := by
  unfold fX12_fails
  refine zwl_i ?_ ?_
  · exact (wI_X12_fails_b23 h0 hS)
  · exact (wI_X12_fails_b23 h0 hS)
set_option maxHeartbeats 40000 in
set_option maxRecDepth 100000 in
theorem wI_X12_entry_b55 {T : zT} {S S0 : zS} {a b : Nat}  (hS : S.1 a b = S0.1 a b) : zwl (fX12_entry_b55 T S) (fun q0 => q0.2.1 a b = S0.1 a b) := by
  unfold fX12_entry_b55
  exact zwl_r hS
set_option maxHeartbeats 40000 in
set_option maxRecDepth 100000 in
theorem wI_X12_entry {T : zT} {k0 : Nat} {x1 : Int32} {x2 : Int32} {S S0 : zS} {a b : Nat} (h0 : ¬ a = zr T k0 12) (h1 : ¬ a = zr T k0 13) (h2 : ¬ (a = k0 ∧ b = 6)) (hS : S.1 a b = S0.1 a b) : zwl (fX12_entry T k0 x1 x2 S) (fun q0 => q0.2.1 a b = S0.1 a b) := by
  unfold fX12_entry
  refine zwl_i ?_ ?_
  · refine zwl_g ?_
    refine zwl_sIa h0 hS (fun S3 e1 => ?_)
    refine zwl_g ?_
    refine zwl_sIa h1 e1 (fun S5 e2 => ?_)
    refine zwl_sIf h2 e2 (fun S6 e3 => ?_)
    exact (wI_X12_entry_b55  e3)
  · exact (wI_X12_entry_b55  hS)
set_option maxHeartbeats 40000 in
set_option maxRecDepth 100000 in
theorem wI_X12_over_l2 {T : zT} {k0 : Nat} {n0 : Nat} {x1 : Int32} {x2 : Int32} {S S0 : zS} {a b : Nat} (h0 : ¬ a = k0) (hS : S.1 a b = S0.1 a b) : zwl (fX12_over_l2 T k0 n0 x1 x2 S) (Sum.elim (fun q1 => q1.2.1 a b = S0.1 a b) (fun q1 => q1.1 a b = S0.1 a b)) := by
  unfold fX12_over_l2
  refine zwl_i ?_ ?_
  · exact zwl_r hS
  · refine zwl_g ?_
    refine zwl_g ?_
    refine zwl_sIa h0 hS (fun S4 e1 => ?_)
    refine zwl_v (fun u5 => ?_)
    exact zwl_r e1
set_option maxHeartbeats 40000 in
set_option maxRecDepth 100000 in
theorem wI_X12_over {T : zT} {k0 : Nat} {n0 : Nat} {x1 : Int32} {S S0 : zS} {a b : Nat} (h0 : ¬ a = k0) (hS : S.1 a b = S0.1 a b) : zwl (fX12_over T k0 n0 x1 S) (fun q0 => q0.2.1 a b = S0.1 a b) := by
  unfold fX12_over
  refine zwl_b1 (zwl_lp (I := (fun q0 => q0.2.1 a b = S0.1 a b)) (Q := (fun q0 => q0.1 a b = S0.1 a b)) (fun a e3 => (wI_X12_over_l2 h0 e3)) hS) (fun e6 e1 => ?_)
  exact zwl_r e1
set_option maxHeartbeats 40000 in
set_option maxRecDepth 100000 in
theorem wI_X12_begins_b28 {T : zT} {k0 : Nat} {x1 : Int32} {s0 : Int32} {s1 : Int32} {s2 : Nat} {m2 : Nat} {S S0 : zS} {a b : Nat} (h0 : ¬ a = s2) (h1 : ¬ a = zr T k0 41) (h2 : ¬ a = zr T k0 42) (h3 : ¬ a = zr T k0 43) (h4 : ¬ a = zr T k0 46) (hS : S.1 a b = S0.1 a b) : zwl (fX12_begins_b28 T k0 x1 s0 s1 s2 m2 S) (Sum.elim (fun q1 => q1.2.1 a b = S0.1 a b) (fun q1 => q1.1 a b = S0.1 a b)) := by
  unfold fX12_begins_b28
  refine zwl_g ?_
  refine zwl_sIa h0 hS (fun S5 e1 => ?_)
  refine zwl_g ?_
  refine zwl_g ?_
  refine zwl_sIa h1 e1 (fun S8 e2 => ?_)
  refine zwl_g ?_
  refine zwl_g ?_
  refine zwl_sIa h2 e2 (fun S11 e3 => ?_)
  refine zwl_g ?_
  refine zwl_sIa h3 e3 (fun S13 e4 => ?_)
  refine zwl_g ?_
  refine zwl_sIa h4 e4 (fun S15 e5 => ?_)
  refine zwl_v (fun u16 => ?_)
  exact zwl_r e5
set_option maxHeartbeats 40000 in
set_option maxRecDepth 100000 in
theorem wI_X12_begins_l2 {T : zT} {k0 : Nat} {x1 : Int32} {S S0 : zS} {a b : Nat} (h0 : ¬ a = zr T k0 40) (h1 : ¬ a = zr T k0 41) (h2 : ¬ a = zr T k0 42) (h3 : ¬ a = zr T k0 43) (h4 : ¬ a = zr T k0 46) (hS : S.1 a b = S0.1 a b) : zwl (fX12_begins_l2 T k0 x1 S) (Sum.elim (fun q1 => q1.2.1 a b = S0.1 a b) (fun q1 => q1.1 a b = S0.1 a b)) := by
  unfold fX12_begins_l2
  refine zwl_i ?_ ?_
  · exact zwl_r hS
  · refine zwl_g ?_
    refine zwl_i ?_ ?_
    · exact (wI_X12_begins_b28 h0 h1 h2 h3 h4 hS)
    · exact (wI_X12_begins_b28 h0 h1 h2 h3 h4 hS)
set_option maxHeartbeats 40000 in
set_option maxRecDepth 100000 in
theorem wI_X12_begins {T : zT} {k0 : Nat} {S S0 : zS} {a b : Nat} (h0 : ¬ a = zr T k0 40) (h1 : ¬ a = zr T k0 41) (h2 : ¬ a = zr T k0 42) (h3 : ¬ a = zr T k0 43) (h4 : ¬ a = zr T k0 46) (h5 : ¬ (a = k0 ∧ b = 48)) (h6 : ¬ (a = k0 ∧ b = 47)) (h7 : ¬ (a = k0 ∧ b = 49)) (h8 : ¬ (a = k0 ∧ b = 50)) (h9 : ¬ (a = k0 ∧ b = 51)) (hS : S.1 a b = S0.1 a b) : zwl (fX12_begins T k0 S) (fun q0 => q0.2.1 a b = S0.1 a b) := by
  unfold fX12_begins
  refine zwl_b1 (zwl_lp (I := (fun q0 => q0.2.1 a b = S0.1 a b)) (Q := (fun q0 => q0.1 a b = S0.1 a b)) (fun a e3 => (wI_X12_begins_l2 h0 h1 h2 h3 h4 e3)) hS) (fun e17 e1 => ?_)
  refine zwl_g ?_
  refine zwl_sIf h5 e1 (fun S19 e4 => ?_)
  refine zwl_sIf h6 e4 (fun S20 e5 => ?_)
  refine zwl_sIf h7 e5 (fun S21 e6 => ?_)
  refine zwl_sIf h8 e6 (fun S22 e7 => ?_)
  refine zwl_sIf h9 e7 (fun S23 e8 => ?_)
  exact zwl_r e8
set_option maxHeartbeats 40000 in
set_option maxRecDepth 100000 in
theorem wI_X12_loses_b52 {T : zT} {k0 : Nat} {x1 : Int32} {x2 : Int32} {s0 : Int32} {s1 : Int32} {s2 : Nat} {m2 : Nat} {S S0 : zS} {a b : Nat} (h0 : ¬ a = s2) (hS : S.1 a b = S0.1 a b) : zwl (fX12_loses_b52 T k0 x1 x2 s0 s1 s2 m2 S) (Sum.elim (fun q1 => q1.2.1 a b = S0.1 a b) (fun q1 => q1.1 a b = S0.1 a b)) := by
  unfold fX12_loses_b52
  refine zwl_g ?_
  refine zwl_sIa h0 hS (fun S6 e1 => ?_)
  refine zwl_v (fun u7 => ?_)
  exact zwl_r e1
set_option maxHeartbeats 40000 in
set_option maxRecDepth 100000 in
theorem wI_X12_loses_b46 {T : zT} {k0 : Nat} {x1 : Int32} {x2 : Int32} {s0 : Int32} {s1 : Nat} {m1 : Nat} {S S0 : zS} {a b : Nat} (h0 : ¬ a = s1) (hS : S.1 a b = S0.1 a b) : zwl (fX12_loses_b46 T k0 x1 x2 s0 s1 m1 S) (Sum.elim (fun q1 => q1.2.1 a b = S0.1 a b) (fun q1 => q1.1 a b = S0.1 a b)) := by
  unfold fX12_loses_b46
  refine zwl_g ?_
  exact (wI_X12_loses_b52 h0 hS)
set_option maxHeartbeats 40000 in
set_option maxRecDepth 100000 in
theorem wI_X12_loses_l2 {T : zT} {k0 : Nat} {x1 : Int32} {x2 : Int32} {S S0 : zS} {a b : Nat} (h0 : ¬ a = zr T k0 40) (hS : S.1 a b = S0.1 a b) : zwl (fX12_loses_l2 T k0 x1 x2 S) (Sum.elim (fun q1 => q1.2.1 a b = S0.1 a b) (fun q1 => q1.1 a b = S0.1 a b)) := by
  unfold fX12_loses_l2
  refine zwl_i ?_ ?_
  · exact zwl_r hS
  · refine zwl_g ?_
    refine zwl_i ?_ ?_
    · refine zwl_g ?_
      refine zwl_i ?_ ?_
      · exact (wI_X12_loses_b46 h0 hS)
      · refine zwl_g ?_
        refine zwl_i ?_ ?_
        · exact (wI_X12_loses_b46 h0 hS)
        · exact (wI_X12_loses_b52 h0 hS)
    · exact (wI_X12_loses_b46 h0 hS)
set_option maxHeartbeats 40000 in
set_option maxRecDepth 100000 in
theorem wI_X12_loses {T : zT} {k0 : Nat} {x1 : Int32} {S S0 : zS} {a b : Nat} (h0 : ¬ a = zr T k0 40) (hS : S.1 a b = S0.1 a b) : zwl (fX12_loses T k0 x1 S) (fun q0 => q0.2.1 a b = S0.1 a b) := by
  unfold fX12_loses
  refine zwl_b1 (zwl_lp (I := (fun q0 => q0.2.1 a b = S0.1 a b)) (Q := (fun q0 => q0.1 a b = S0.1 a b)) (fun a e3 => (wI_X12_loses_l2 h0 e3)) hS) (fun e12 e1 => ?_)
  exact zwl_r e1
set_option maxHeartbeats 40000 in
set_option maxRecDepth 100000 in
theorem wI_X12_works_b72 {T : zT} {s0 : Int32} {S S0 : zS} {a b : Nat}  (hS : S.1 a b = S0.1 a b) : zwl (fX12_works_b72 T s0 S) (fun q0 => q0.2.1 a b = S0.1 a b) := by
  unfold fX12_works_b72
  refine zwl_g ?_
  exact zwl_r hS
set_option maxHeartbeats 40000 in
set_option maxRecDepth 100000 in
theorem wI_X12_works_b67 {T : zT} {S S0 : zS} {a b : Nat}  (hS : S.1 a b = S0.1 a b) : zwl (fX12_works_b67 T S) (fun q0 => q0.2.1 a b = S0.1 a b) := by
  unfold fX12_works_b67
  exact (wI_X12_works_b72  hS)
set_option maxHeartbeats 40000 in
set_option maxRecDepth 100000 in
theorem wI_X12_works_b53 {T : zT} {s0 : Int32} {S S0 : zS} {a b : Nat}  (hS : S.1 a b = S0.1 a b) : zwl (fX12_works_b53 T s0 S) (fun q0 => q0.2.1 a b = S0.1 a b) := by
  unfold fX12_works_b53
  refine zwl_g ?_
  exact zwl_r hS
set_option maxHeartbeats 40000 in
set_option maxRecDepth 100000 in
theorem wI_X12_works {T : zT} {k0 : Nat} {x1 : Int32} {x2 : Int32} {x3 : Int32} {S S0 : zS} {a b : Nat}  (hS : S.1 a b = S0.1 a b) : zwl (fX12_works T k0 x1 x2 x3 S) (fun q0 => q0.2.1 a b = S0.1 a b) := by
  unfold fX12_works
  refine zwl_i ?_ ?_
  · refine zwl_sIn hS (fun S5 e1 => ?_)
    refine zwl_g ?_
    refine zwl_i ?_ ?_
    · exact (wI_X12_works_b53  e1)
    · exact (wI_X12_works_b53  e1)
  · refine zwl_i ?_ ?_
    · exact (wI_X12_works_b67  hS)
    · refine zwl_i ?_ ?_
      · exact (wI_X12_works_b67  hS)
      · exact (wI_X12_works_b72  hS)
set_option maxHeartbeats 40000 in
set_option maxRecDepth 100000 in
theorem wI_X12_asItIs {T : zT} {k0 : Nat} {S S0 : zS} {a b : Nat} (h0 : ¬ (a = k0 ∧ b = 54)) (h1 : ¬ (a = k0 ∧ b = 55)) (h2 : ¬ (a = k0 ∧ b = 56)) (h3 : ¬ (a = k0 ∧ b = 57)) (h4 : ¬ (a = k0 ∧ b = 58)) (h5 : ¬ (a = k0 ∧ b = 59)) (hS : S.1 a b = S0.1 a b) : zwl (fX12_asItIs T k0 S) (fun q0 => q0.2.1 a b = S0.1 a b) := by
  unfold fX12_asItIs
  refine zwl_sIf h0 hS (fun S1 e1 => ?_)
  refine zwl_sIf h1 e1 (fun S2 e2 => ?_)
  refine zwl_sIf h2 e2 (fun S3 e3 => ?_)
  refine zwl_sIf h3 e3 (fun S4 e4 => ?_)
  refine zwl_sIf h4 e4 (fun S5 e5 => ?_)
  refine zwl_g ?_
  refine zwl_sIf h5 e5 (fun S7 e6 => ?_)
  exact zwl_r e6
set_option maxHeartbeats 40000 in
set_option maxRecDepth 100000 in
theorem wI_X12_carry_b41 {T : zT} {k0 : Nat} {k1 : Nat} {n1 : Nat} {x2 : Int32} {x3 : Int32} {S S0 : zS} {a b : Nat} (h0 : ¬ (a = k0 ∧ b = 65)) (hS : S.1 a b = S0.1 a b) : zwl (fX12_carry_b41 T k0 k1 n1 x2 x3 S) (Sum.elim (fun q1 => q1.2.1 a b = S0.1 a b) (fun q1 => q1.1 a b = S0.1 a b)) := by
  unfold fX12_carry_b41
  refine zwl_sIf h0 hS (fun S6 e1 => ?_)
  refine zwl_v (fun u7 => ?_)
  exact zwl_r e1
set_option maxHeartbeats 40000 in
set_option maxRecDepth 100000 in
theorem wI_X12_carry_l2 {T : zT} {k0 : Nat} {k1 : Nat} {n1 : Nat} {x2 : Int32} {x3 : Int32} {S S0 : zS} {a b : Nat} (h0 : ¬ a = zr T k0 63) (h1 : ¬ (a = k0 ∧ b = 65)) (h2 : ¬ a = k1) (hS : S.1 a b = S0.1 a b) : zwl (fX12_carry_l2 T k0 k1 n1 x2 x3 S) (Sum.elim (fun q1 => q1.2.1 a b = S0.1 a b) (fun q1 => q1.1 a b = S0.1 a b)) := by
  unfold fX12_carry_l2
  refine zwl_i ?_ ?_
  · exact zwl_r hS
  · refine zwl_i ?_ ?_
    · refine zwl_g ?_
      refine zwl_g ?_
      refine zwl_sIa h0 hS (fun S5 e1 => ?_)
      exact (wI_X12_carry_b41 h1 e1)
    · refine zwl_g ?_
      refine zwl_g ?_
      refine zwl_sIa h2 hS (fun S10 e2 => ?_)
      exact (wI_X12_carry_b41 h1 e2)
set_option maxHeartbeats 40000 in
set_option maxRecDepth 100000 in
theorem wI_X12_carry {T : zT} {k0 : Nat} {k1 : Nat} {n1 : Nat} {x2 : Int32} {S S0 : zS} {a b : Nat} (h0 : ¬ a = zr T k0 63) (h1 : ¬ (a = k0 ∧ b = 65)) (h2 : ¬ a = k1) (hS : S.1 a b = S0.1 a b) : zwl (fX12_carry T k0 k1 n1 x2 S) (fun q0 => q0.2.1 a b = S0.1 a b) := by
  unfold fX12_carry
  refine zwl_b1 (zwl_lp (I := (fun q0 => q0.2.1 a b = S0.1 a b)) (Q := (fun q0 => q0.1 a b = S0.1 a b)) (fun a e3 => (wI_X12_carry_l2 h0 h1 h2 e3)) hS) (fun e11 e1 => ?_)
  exact zwl_r e1
set_option maxHeartbeats 40000 in
set_option maxRecDepth 100000 in
theorem wI_X0_clear {T : zT} {k0 : Nat} {S S0 : zS} {a b : Nat} (h0 : ¬ (a = k0 ∧ b = 0)) (h1 : ¬ (a = k0 ∧ b = 1)) (h2 : ¬ (a = k0 ∧ b = 2)) (h3 : ¬ (a = k0 ∧ b = 3)) (h4 : ¬ (a = k0 ∧ b = 4)) (h5 : ¬ (a = k0 ∧ b = 5)) (h6 : ¬ (a = zr T k0 12 ∧ b = 3)) (h7 : ¬ (a = zr T k0 13 ∧ b = 3)) (h8 : ¬ (a = zr T k0 14 ∧ b = 1)) (h9 : ¬ (a = zr T k0 14 ∧ b = 2)) (hS : S.1 a b = S0.1 a b) : zwl (fX0_clear T k0 S) (fun q0 => q0.2.1 a b = S0.1 a b) := by
  unfold fX0_clear
  refine zwl_sIf h0 hS (fun S1 e1 => ?_)
  refine zwl_sIf h1 e1 (fun S2 e2 => ?_)
  refine zwl_sIf h2 e2 (fun S3 e3 => ?_)
  refine zwl_sIf h3 e3 (fun S4 e4 => ?_)
  refine zwl_sIf h4 e4 (fun S5 e5 => ?_)
  refine zwl_sIf h5 e5 (fun S6 e6 => ?_)
  refine zwl_sIf h6 e6 (fun S7 e7 => ?_)
  refine zwl_sIf h7 e7 (fun S8 e8 => ?_)
  refine zwl_b (wI_X2_clear h8 h9 e8) (fun r9 S11 e10 => ?_)
  exact zwl_r e10
set_option maxHeartbeats 40000 in
set_option maxRecDepth 100000 in
theorem wI_X1_take {T : zT} {k0 : Nat} {k1 : Nat} {S S0 : zS} {a b : Nat} (h0 : ¬ a = zr T k0 0) (h1 : ¬ a = zr T k0 1) (h2 : ¬ a = zr T k0 2) (h3 : ¬ (a = k0 ∧ b = 3)) (hS : S.1 a b = S0.1 a b) : zwl (fX1_take T k0 k1 S) (fun q0 => q0.2.1 a b = S0.1 a b) := by
  unfold fX1_take
  refine zwl_g ?_
  refine zwl_sIC h0 hS (fun S2 e1 => ?_)
  refine zwl_g ?_
  refine zwl_sIC h1 e1 (fun S4 e2 => ?_)
  refine zwl_g ?_
  refine zwl_sIC h2 e2 (fun S6 e3 => ?_)
  refine zwl_sIf h3 e3 (fun S7 e4 => ?_)
  exact zwl_r e4
set_option maxHeartbeats 40000 in
set_option maxRecDepth 100000 in
theorem wI_X2_take {T : zT} {k0 : Nat} {k1 : Nat} {S S0 : zS} {a b : Nat} (h0 : ¬ a = zr T k0 0) (h1 : ¬ (a = k0 ∧ b = 1)) (h2 : ¬ (a = k0 ∧ b = 2)) (hS : S.1 a b = S0.1 a b) : zwl (fX2_take T k0 k1 S) (fun q0 => q0.2.1 a b = S0.1 a b) := by
  unfold fX2_take
  refine zwl_g ?_
  refine zwl_sIC h0 hS (fun S2 e1 => ?_)
  refine zwl_sIf h1 e1 (fun S3 e2 => ?_)
  refine zwl_sIf h2 e2 (fun S4 e3 => ?_)
  exact zwl_r e3
set_option maxHeartbeats 40000 in
set_option maxRecDepth 100000 in
theorem wI_X4_borrowOnce_b18 {T : zT} {S S0 : zS} {a b : Nat}  (hS : S.1 a b = S0.1 a b) : zwl (fX4_borrowOnce_b18 T S) (fun q0 => q0.2.1 a b = S0.1 a b) := by
  unfold fX4_borrowOnce_b18
  exact zwl_r hS
set_option maxHeartbeats 40000 in
set_option maxRecDepth 100000 in
theorem wI_X4_borrowOnce {T : zT} {k0 : Nat} {x1 : Int32} {S S0 : zS} {a b : Nat} (h0 : ¬ (a = k0 ∧ b = 16)) (h1 : ¬ (a = k0 ∧ b = 3)) (hS : S.1 a b = S0.1 a b) : zwl (fX4_borrowOnce T k0 x1 S) (fun q0 => q0.2.1 a b = S0.1 a b) := by
  unfold fX4_borrowOnce
  refine zwl_i ?_ ?_
  · refine zwl_t (fun r2 => ?_)
    refine zwl_i ?_ ?_
    · exact (wI_X4_borrowOnce_b18  hS)
    · refine zwl_sIf h0 hS (fun S5 e1 => ?_)
      refine zwl_sIf h1 e1 (fun S6 e2 => ?_)
      exact zwl_r e2
  · exact (wI_X4_borrowOnce_b18  hS)
set_option maxHeartbeats 40000 in
set_option maxRecDepth 100000 in
theorem wI_X5_fetchAnywhere_b69 {T : zT} {k0 : Nat} {k1 : Nat} {n1 : Nat} {x2 : Int32} {x3 : Int32} {x4 : Int32} {S S0 : zS} {a b : Nat}  (hS : S.1 a b = S0.1 a b) : zwl (fX5_fetchAnywhere_b69 T k0 k1 n1 x2 x3 x4 S) (Sum.elim (fun q1 => q1.2.1 a b = S0.1 a b) (fun q1 => q1.1 a b = S0.1 a b)) := by
  unfold fX5_fetchAnywhere_b69
  refine zwl_v (fun u5 => ?_)
  exact zwl_r hS
set_option maxHeartbeats 40000 in
set_option maxRecDepth 100000 in
theorem wI_X5_fetchAnywhere_l3 {T : zT} {k0 : Nat} {k1 : Nat} {n1 : Nat} {x2 : Int32} {x3 : Int32} {x4 : Int32} {S S0 : zS} {a b : Nat} (h0 : ¬ a = k1) (hS : S.1 a b = S0.1 a b) : zwl (fX5_fetchAnywhere_l3 T k0 k1 n1 x2 x3 x4 S) (Sum.elim (fun q1 => q1.2.1 a b = S0.1 a b) (fun q1 => q1.1 a b = S0.1 a b)) := by
  unfold fX5_fetchAnywhere_l3
  refine zwl_i ?_ ?_
  · exact zwl_r hS
  · refine zwl_i ?_ ?_
    · exact zwl_r hS
    · refine zwl_v (fun u3 => ?_)
      refine zwl_i ?_ ?_
      · exact (wI_X5_fetchAnywhere_b69  hS)
      · refine zwl_i ?_ ?_
        · exact (wI_X5_fetchAnywhere_b69  hS)
        · refine zwl_g ?_
          refine zwl_i ?_ ?_
          · exact (wI_X5_fetchAnywhere_b69  hS)
          · refine zwl_g ?_
            refine zwl_g ?_
            refine zwl_v (fun u11 => ?_)
            refine zwl_g ?_
            refine zwl_sIa h0 hS (fun S13 e1 => ?_)
            exact (wI_X5_fetchAnywhere_b69  e1)
set_option maxHeartbeats 40000 in
set_option maxRecDepth 100000 in
theorem wI_X5_fetchAnywhere_b75 {T : zT} {S S0 : zS} {a b : Nat}  (hS : S.1 a b = S0.1 a b) : zwl (fX5_fetchAnywhere_b75 T S) (fun q0 => q0.2.1 a b = S0.1 a b) := by
  unfold fX5_fetchAnywhere_b75
  exact zwl_r hS
set_option maxHeartbeats 40000 in
set_option maxRecDepth 100000 in
theorem wI_X5_fetchAnywhere {T : zT} {k0 : Nat} {k1 : Nat} {n1 : Nat} {x2 : Int32} {x3 : Int32} {S S0 : zS} {a b : Nat} (h0 : ¬ a = k1) (hS : S.1 a b = S0.1 a b) : zwl (fX5_fetchAnywhere T k0 k1 n1 x2 x3 S) (fun q0 => q0.2.1 a b = S0.1 a b) := by
  unfold fX5_fetchAnywhere
  refine zwl_b1 (zwl_lp (I := (fun q0 => q0.2.1 a b = S0.1 a b)) (Q := (fun q0 => q0.1 a b = S0.1 a b)) (fun a e3 => (wI_X5_fetchAnywhere_l3 h0 e3)) hS) (fun e14 e1 => ?_)
  exact (wI_X5_fetchAnywhere_b75  e1)
set_option maxHeartbeats 40000 in
set_option maxRecDepth 100000 in
theorem wI_X5_shift_b26 {T : zT} {k0 : Nat} {n0 : Nat} {x1 : Int32} {x2 : Int32} {S S0 : zS} {a b : Nat}  (hS : S.1 a b = S0.1 a b) : zwl (fX5_shift_b26 T k0 n0 x1 x2 S) (Sum.elim (fun q1 => q1.2.1 a b = S0.1 a b) (fun q1 => q1.1 a b = S0.1 a b)) := by
  unfold fX5_shift_b26
  refine zwl_v (fun u4 => ?_)
  exact zwl_r hS
set_option maxHeartbeats 40000 in
set_option maxRecDepth 100000 in
theorem wI_X5_shift_l2 {T : zT} {k0 : Nat} {n0 : Nat} {x1 : Int32} {x2 : Int32} {S S0 : zS} {a b : Nat} (h0 : ¬ a = k0) (hS : S.1 a b = S0.1 a b) : zwl (fX5_shift_l2 T k0 n0 x1 x2 S) (Sum.elim (fun q1 => q1.2.1 a b = S0.1 a b) (fun q1 => q1.1 a b = S0.1 a b)) := by
  unfold fX5_shift_l2
  refine zwl_i ?_ ?_
  · exact zwl_r hS
  · refine zwl_g ?_
    refine zwl_i ?_ ?_
    · exact (wI_X5_shift_b26  hS)
    · refine zwl_g ?_
      refine zwl_v (fun u6 => ?_)
      refine zwl_g ?_
      refine zwl_sIa h0 hS (fun S8 e1 => ?_)
      exact (wI_X5_shift_b26  e1)
set_option maxHeartbeats 40000 in
set_option maxRecDepth 100000 in
theorem wI_X5_shift {T : zT} {k0 : Nat} {n0 : Nat} {x1 : Int32} {S S0 : zS} {a b : Nat} (h0 : ¬ a = k0) (hS : S.1 a b = S0.1 a b) : zwl (fX5_shift T k0 n0 x1 S) (fun q0 => q0.2.1 a b = S0.1 a b) := by
  unfold fX5_shift
  refine zwl_b1 (zwl_lp (I := (fun q0 => q0.2.1 a b = S0.1 a b)) (Q := (fun q0 => q0.1 a b = S0.1 a b)) (fun a e3 => (wI_X5_shift_l2 h0 e3)) hS) (fun e9 e1 => ?_)
  exact zwl_r e1
set_option maxHeartbeats 40000 in
set_option maxRecDepth 100000 in
theorem wI_X6_readSign_b56 {T : zT} {x1 : Int32} {S S0 : zS} {a b : Nat}  (hS : S.1 a b = S0.1 a b) : zwl (fX6_readSign_b56 T x1 S) (fun q0 => q0.2.1 a b = S0.1 a b) := by
  unfold fX6_readSign_b56
  exact zwl_r hS
set_option maxHeartbeats 40000 in
set_option maxRecDepth 100000 in
theorem wI_X6_readSign_b17 {T : zT} {k0 : Nat} {x1 : Int32} {S S0 : zS} {a b : Nat} (h0 : ¬ (a = k0 ∧ b = 5)) (hS : S.1 a b = S0.1 a b) : zwl (fX6_readSign_b17 T k0 x1 S) (fun q0 => q0.2.1 a b = S0.1 a b) := by
  unfold fX6_readSign_b17
  refine zwl_b (wI_X6_fail h0 hS) (fun r1 S5 e2 => ?_)
  exact (wI_X6_readSign_b56  e2)
set_option maxHeartbeats 40000 in
set_option maxRecDepth 100000 in
theorem wI_X6_readSign {T : zT} {k0 : Nat} {S S0 : zS} {a b : Nat} (h0 : ¬ (a = k0 ∧ b = 5)) (h1 : ¬ (a = k0 ∧ b = 6)) (h2 : ¬ (a = k0 ∧ b = 1)) (h3 : ¬ (a = k0 ∧ b = 2)) (h4 : ¬ (a = k0 ∧ b = 3)) (h5 : ¬ (a = k0 ∧ b = 4)) (hS : S.1 a b = S0.1 a b) : zwl (fX6_readSign T k0 S) (fun q0 => q0.2.1 a b = S0.1 a b) := by
  unfold fX6_readSign
  refine zwl_v (fun u1 => ?_)
  refine zwl_i ?_ ?_
  · exact (wI_X6_readSign_b17 h0 hS)
  · refine zwl_i ?_ ?_
    · refine zwl_i ?_ ?_
      · refine zwl_sIf h1 hS (fun S8 e1 => ?_)
        refine zwl_b (wI_X6_next h2 h3 h4 h5 e1) (fun r2 S11 e3 => ?_)
        exact (wI_X6_readSign_b56  e3)
      · refine zwl_b (wI_X6_fail h0 hS) (fun r4 S14 e5 => ?_)
        exact (wI_X6_readSign_b56  e5)
    · exact (wI_X6_readSign_b17 h0 hS)
set_option maxHeartbeats 40000 in
set_option maxRecDepth 100000 in
theorem wI_X6_readValue_b115 {T : zT} {S S0 : zS} {a b : Nat}  (hS : S.1 a b = S0.1 a b) : zwl (fX6_readValue_b115 T S) (fun q0 => q0.2.1 a b = S0.1 a b) := by
  unfold fX6_readValue_b115
  exact zwl_r hS
set_option maxHeartbeats 40000 in
set_option maxRecDepth 100000 in
theorem wI_X6_readValue_b108 {T : zT} {k0 : Nat} {s0 : Int32} {s1 : Int32} {s2 : Nat} {S S0 : zS} {a b : Nat} (h0 : ¬ (a = s2 ∧ b = 2)) (h1 : ¬ a = zr T s2 0) (h2 : ¬ (a = s2 ∧ b = 1)) (h3 : ¬ (a = k0 ∧ b = 1)) (h4 : ¬ (a = k0 ∧ b = 2)) (h5 : ¬ (a = k0 ∧ b = 3)) (h6 : ¬ (a = k0 ∧ b = 4)) (hS : S.1 a b = S0.1 a b) : zwl (fX6_readValue_b108 T k0 s0 s1 s2 S) (fun q0 => q0.2.1 a b = S0.1 a b) := by
  unfold fX6_readValue_b108
  refine zwl_b (wI_X2_add h0 h1 h2 hS) (fun r1 S9 e2 => ?_)
  refine zwl_b (wI_X6_next h3 h4 h5 h6 e2) (fun r3 S12 e4 => ?_)
  exact (wI_X6_readValue_b115  e4)
set_option maxHeartbeats 40000 in
set_option maxRecDepth 100000 in
theorem wI_X6_readValue_b88 {T : zT} {k0 : Nat} {s0 : Int32} {s1 : Nat} {S S0 : zS} {a b : Nat} (h0 : ¬ (a = s1 ∧ b = 2)) (h1 : ¬ a = zr T s1 0) (h2 : ¬ (a = s1 ∧ b = 1)) (h3 : ¬ (a = k0 ∧ b = 1)) (h4 : ¬ (a = k0 ∧ b = 2)) (h5 : ¬ (a = k0 ∧ b = 3)) (h6 : ¬ (a = k0 ∧ b = 4)) (hS : S.1 a b = S0.1 a b) : zwl (fX6_readValue_b88 T k0 s0 s1 S) (fun q0 => q0.2.1 a b = S0.1 a b) := by
  unfold fX6_readValue_b88
  refine zwl_i ?_ ?_
  · exact (wI_X6_readValue_b108 h0 h1 h2 h3 h4 h5 h6 hS)
  · exact (wI_X6_readValue_b108 h0 h1 h2 h3 h4 h5 h6 hS)
set_option maxHeartbeats 40000 in
set_option maxRecDepth 100000 in
theorem wI_X6_readValue_b41 {T : zT} {k0 : Nat} {S S0 : zS} {a b : Nat} (h0 : ¬ (a = k0 ∧ b = 6)) (h1 : ¬ (a = zr T k0 9 ∧ b = 2)) (h2 : ¬ a = zr T (zr T k0 9) 0) (h3 : ¬ (a = zr T k0 9 ∧ b = 1)) (h4 : ¬ (a = k0 ∧ b = 1)) (h5 : ¬ (a = k0 ∧ b = 2)) (h6 : ¬ (a = k0 ∧ b = 3)) (h7 : ¬ (a = k0 ∧ b = 4)) (h8 : ¬ (a = k0 ∧ b = 5)) (hS : S.1 a b = S0.1 a b) : zwl (fX6_readValue_b41 T k0 S) (fun q0 => q0.2.1 a b = S0.1 a b) := by
  unfold fX6_readValue_b41
  refine zwl_i ?_ ?_
  · refine zwl_sIf h0 hS (fun S4 e1 => ?_)
    refine zwl_i ?_ ?_
    · exact (wI_X6_readValue_b88 h1 h2 h3 h4 h5 h6 h7 e1)
    · exact (wI_X6_readValue_b88 h1 h2 h3 h4 h5 h6 h7 e1)
  · refine zwl_b (wI_X6_fail h8 hS) (fun r2 S15 e3 => ?_)
    exact (wI_X6_readValue_b115  e3)
set_option maxHeartbeats 40000 in
set_option maxRecDepth 100000 in
theorem wI_X6_readValue {T : zT} {k0 : Nat} {S S0 : zS} {a b : Nat} (h0 : ¬ (a = k0 ∧ b = 5)) (h1 : ¬ (a = k0 ∧ b = 6)) (h2 : ¬ (a = zr T k0 9 ∧ b = 2)) (h3 : ¬ a = zr T (zr T k0 9) 0) (h4 : ¬ (a = zr T k0 9 ∧ b = 1)) (h5 : ¬ (a = k0 ∧ b = 1)) (h6 : ¬ (a = k0 ∧ b = 2)) (h7 : ¬ (a = k0 ∧ b = 3)) (h8 : ¬ (a = k0 ∧ b = 4)) (hS : S.1 a b = S0.1 a b) : zwl (fX6_readValue T k0 S) (fun q0 => q0.2.1 a b = S0.1 a b) := by
  unfold fX6_readValue
  refine zwl_i ?_ ?_
  · refine zwl_b (wI_X6_fail h0 hS) (fun r1 S24 e2 => ?_)
    exact (wI_X6_readValue_b115  e2)
  · refine zwl_i ?_ ?_
    · exact (wI_X6_readValue_b41 h1 h2 h3 h4 h5 h6 h7 h8 h0 hS)
    · refine zwl_t (fun r16 => ?_)
      refine zwl_i ?_ ?_
      · refine zwl_b (wI_X6_fail h0 hS) (fun r3 S21 e4 => ?_)
        exact (wI_X6_readValue_b115  e4)
      · exact (wI_X6_readValue_b41 h1 h2 h3 h4 h5 h6 h7 h8 h0 hS)
set_option maxHeartbeats 40000 in
set_option maxRecDepth 100000 in
theorem wI_X6_number_b49 {T : zT} {k0 : Nat} {x1 : Int32} {S S0 : zS} {a b : Nat} (h0 : ¬ (a = k0 ∧ b = 5)) (hS : S.1 a b = S0.1 a b) : zwl (fX6_number_b49 T k0 x1 S) (fun q0 => q0.2.1 a b = S0.1 a b) := by
  unfold fX6_number_b49
  refine zwl_b (wI_X6_fail h0 hS) (fun r1 S6 e2 => ?_)
  exact zwl_r e2
set_option maxHeartbeats 40000 in
set_option maxRecDepth 100000 in
theorem wI_X6_number_b30 {T : zT} {k0 : Nat} {x1 : Int32} {x2 : Int32} {x3 : Int32} {S S0 : zS} {a b : Nat} (h0 : ¬ (a = k0 ∧ b = 5)) (h1 : ¬ (a = k0 ∧ b = 1)) (h2 : ¬ (a = k0 ∧ b = 2)) (h3 : ¬ (a = k0 ∧ b = 3)) (h4 : ¬ (a = k0 ∧ b = 4)) (hS : S.1 a b = S0.1 a b) : zwl (fX6_number_b30 T k0 x1 x2 x3 S) (fun q0 => q0.2.1 a b = S0.1 a b) := by
  unfold fX6_number_b30
  refine zwl_i ?_ ?_
  · exact (wI_X6_number_b49 h0 hS)
  · refine zwl_i ?_ ?_
    · exact (wI_X6_number_b49 h0 hS)
    · refine zwl_i ?_ ?_
      · refine zwl_b (wI_X6_next h1 h2 h3 h4 hS) (fun r1 S11 e2 => ?_)
        exact zwl_r e2
      · exact (wI_X6_number_b49 h0 hS)
set_option maxHeartbeats 40000 in
set_option maxRecDepth 100000 in
theorem wI_X6_number {T : zT} {k0 : Nat} {x1 : Int32} {x2 : Int32} {S S0 : zS} {a b : Nat} (h0 : ¬ (a = k0 ∧ b = 5)) (h1 : ¬ (a = k0 ∧ b = 1)) (h2 : ¬ (a = k0 ∧ b = 2)) (h3 : ¬ (a = k0 ∧ b = 3)) (h4 : ¬ (a = k0 ∧ b = 4)) (hS : S.1 a b = S0.1 a b) : zwl (fX6_number T k0 x1 x2 S) (fun q0 => q0.2.1 a b = S0.1 a b) := by
  unfold fX6_number
  refine zwl_v (fun u1 => ?_)
  refine zwl_i ?_ ?_
  · exact (wI_X6_number_b30 h0 h1 h2 h3 h4 hS)
  · refine zwl_i ?_ ?_
    · exact (wI_X6_number_b30 h0 h1 h2 h3 h4 hS)
    · refine zwl_b (wI_X6_fail h0 hS) (fun r1 S15 e2 => ?_)
      exact zwl_r e2
set_option maxHeartbeats 40000 in
set_option maxRecDepth 100000 in
theorem wI_X6_expect_b20 {T : zT} {S S0 : zS} {a b : Nat}  (hS : S.1 a b = S0.1 a b) : zwl (fX6_expect_b20 T S) (fun q0 => q0.2.1 a b = S0.1 a b) := by
  unfold fX6_expect_b20
  exact zwl_r hS
set_option maxHeartbeats 40000 in
set_option maxRecDepth 100000 in
theorem wI_X6_expect {T : zT} {k0 : Nat} {x1 : Int32} {S S0 : zS} {a b : Nat} (h0 : ¬ (a = k0 ∧ b = 1)) (h1 : ¬ (a = k0 ∧ b = 2)) (h2 : ¬ (a = k0 ∧ b = 3)) (h3 : ¬ (a = k0 ∧ b = 4)) (h4 : ¬ (a = k0 ∧ b = 5)) (hS : S.1 a b = S0.1 a b) : zwl (fX6_expect T k0 x1 S) (fun q0 => q0.2.1 a b = S0.1 a b) := by
  unfold fX6_expect
  refine zwl_i ?_ ?_
  · refine zwl_b (wI_X6_next h0 h1 h2 h3 hS) (fun r1 S7 e2 => ?_)
    exact (wI_X6_expect_b20  e2)
  · refine zwl_b (wI_X6_fail h4 hS) (fun r3 S4 e4 => ?_)
    exact (wI_X6_expect_b20  e4)
set_option maxHeartbeats 40000 in
set_option maxRecDepth 100000 in
theorem wI_X7_take {T : zT} {k0 : Nat} {k1 : Nat} {S S0 : zS} {a b : Nat} (h0 : ¬ a = zr T k0 0) (h1 : ¬ a = zr T k0 1) (h2 : ¬ a = zr T k0 2) (h3 : ¬ (a = k0 ∧ b = 3)) (hS : S.1 a b = S0.1 a b) : zwl (fX7_take T k0 k1 S) (fun q0 => q0.2.1 a b = S0.1 a b) := by
  unfold fX7_take
  refine zwl_g ?_
  refine zwl_sIC h0 hS (fun S2 e1 => ?_)
  refine zwl_g ?_
  refine zwl_sIC h1 e1 (fun S4 e2 => ?_)
  refine zwl_g ?_
  refine zwl_sIC h2 e2 (fun S6 e3 => ?_)
  refine zwl_sIf h3 e3 (fun S7 e4 => ?_)
  exact zwl_r e4
set_option maxHeartbeats 40000 in
set_option maxRecDepth 100000 in
theorem wI_X8_clear {T : zT} {k0 : Nat} {S S0 : zS} {a b : Nat} (h0 : ¬ (a = k0 ∧ b = 2)) (h1 : ¬ (a = k0 ∧ b = 3)) (h2 : ¬ (a = zr T k0 4 ∧ b = 1)) (h3 : ¬ (a = zr T k0 4 ∧ b = 2)) (hS : S.1 a b = S0.1 a b) : zwl (fX8_clear T k0 S) (fun q0 => q0.2.1 a b = S0.1 a b) := by
  unfold fX8_clear
  refine zwl_sIf h0 hS (fun S1 e1 => ?_)
  refine zwl_sIf h1 e1 (fun S2 e2 => ?_)
  refine zwl_b (wI_X2_clear h2 h3 e2) (fun r3 S5 e4 => ?_)
  exact zwl_r e4
set_option maxHeartbeats 40000 in
set_option maxRecDepth 100000 in
theorem wI_X9_place {T : zT} {k0 : Nat} {x1 : Int32} {x2 : Int32} {x3 : Int32} {S S0 : zS} {a b : Nat}  (hS : S.1 a b = S0.1 a b) : zwl (fX9_place T k0 x1 x2 x3 S) (fun q0 => q0.2.1 a b = S0.1 a b) := by
  unfold fX9_place
  refine zwl_g ?_
  refine zwl_sIn hS (fun S2 e1 => ?_)
  refine zwl_t (fun r3 => ?_)
  refine zwl_g ?_
  refine zwl_sIn e1 (fun S6 e2 => ?_)
  refine zwl_t (fun r7 => ?_)
  refine zwl_g ?_
  refine zwl_sIn e2 (fun S10 e3 => ?_)
  exact zwl_r e3
set_option maxHeartbeats 40000 in
set_option maxRecDepth 100000 in
theorem wI_X9_valueAt_b157 {T : zT} {k0 : Nat} {k1 : Nat} {x3 : Int32} {x4 : Int32} {S S0 : zS} {a b : Nat}  (hS : S.1 a b = S0.1 a b) : zwl (fX9_valueAt_b157 T k0 k1 x3 x4 S) (Sum.elim (fun q1 => q1.2.2.1 a b = S0.1 a b) (Sum.elim (fun q2 => q2.2.1 a b = S0.1 a b) (fun q2 => q2.2.1 a b = S0.1 a b))) := by
  unfold fX9_valueAt_b157
  refine zwl_v (fun u9 => ?_)
  exact zwl_r hS
set_option maxHeartbeats 40000 in
set_option maxRecDepth 100000 in
theorem wI_X9_valueAt_b87 {T : zT} {k0 : Nat} {k1 : Nat} {x3 : Int32} {x4 : Int32} {S S0 : zS} {a b : Nat}  (hS : S.1 a b = S0.1 a b) : zwl (fX9_valueAt_b87 T k0 k1 x3 x4 S) (Sum.elim (fun q1 => q1.2.2.1 a b = S0.1 a b) (Sum.elim (fun q2 => q2.2.1 a b = S0.1 a b) (fun q2 => q2.2.1 a b = S0.1 a b))) := by
  unfold fX9_valueAt_b87
  exact (wI_X9_valueAt_b157  hS)
set_option maxHeartbeats 40000 in
set_option maxRecDepth 100000 in
theorem wI_X9_valueAt_b83 {T : zT} {k0 : Nat} {k1 : Nat} {x3 : Int32} {x4 : Int32} {s0 : Int64} {s1 : Int32} {s2 : Nat} {m2 : Nat} {S S0 : zS} {a b : Nat}  (hS : S.1 a b = S0.1 a b) : zwl (fX9_valueAt_b83 T k0 k1 x3 x4 s0 s1 s2 m2 S) (Sum.elim (fun q1 => q1.2.2.1 a b = S0.1 a b) (Sum.elim (fun q2 => q2.2.1 a b = S0.1 a b) (fun q2 => q2.2.1 a b = S0.1 a b))) := by
  unfold fX9_valueAt_b83
  refine zwl_g ?_
  refine zwl_sIn hS (fun S14 e1 => ?_)
  refine zwl_v (fun u15 => ?_)
  exact (wI_X9_valueAt_b87  e1)
set_option maxHeartbeats 40000 in
set_option maxRecDepth 100000 in
theorem wI_X9_valueAt_b45 {T : zT} {k0 : Nat} {k1 : Nat} {x3 : Int32} {x4 : Int32} {x5 : Int32} {S S0 : zS} {a b : Nat}  (hS : S.1 a b = S0.1 a b) : zwl (fX9_valueAt_b45 T k0 k1 x3 x4 x5 S) (Sum.elim (fun q1 => q1.2.2.1 a b = S0.1 a b) (Sum.elim (fun q2 => q2.2.1 a b = S0.1 a b) (fun q2 => q2.2.1 a b = S0.1 a b))) := by
  unfold fX9_valueAt_b45
  refine zwl_t (fun r6 => ?_)
  refine zwl_i ?_ ?_
  · exact (wI_X9_valueAt_b87  hS)
  · refine zwl_i ?_ ?_
    · exact (wI_X9_valueAt_b83  hS)
    · refine zwl_t (fun r11 => ?_)
      exact (wI_X9_valueAt_b83  hS)
set_option maxHeartbeats 40000 in
set_option maxRecDepth 100000 in
theorem wI_X9_valueAt_l5 {T : zT} {k0 : Nat} {k1 : Nat} {x3 : Int32} {x4 : Int32} {S S0 : zS} {a b : Nat}  (hS : S.1 a b = S0.1 a b) : zwl (fX9_valueAt_l5 T k0 k1 x3 x4 S) (Sum.elim (fun q1 => q1.2.2.1 a b = S0.1 a b) (Sum.elim (fun q2 => q2.2.1 a b = S0.1 a b) (fun q2 => q2.2.1 a b = S0.1 a b))) := by
  unfold fX9_valueAt_l5
  refine zwl_i ?_ ?_
  · exact zwl_r hS
  · refine zwl_t (fun r2 => ?_)
    refine zwl_i ?_ ?_
    · exact zwl_r hS
    · refine zwl_i ?_ ?_
      · exact (wI_X9_valueAt_b45  hS)
      · refine zwl_i ?_ ?_
        · exact (wI_X9_valueAt_b45  hS)
        · refine zwl_i ?_ ?_
          · refine zwl_i ?_ ?_
            · exact (wI_X9_valueAt_b157  hS)
            · refine zwl_g ?_
              refine zwl_g ?_
              refine zwl_sIn hS (fun S29 e1 => ?_)
              exact (wI_X9_valueAt_b157  e1)
          · refine zwl_i ?_ ?_
            · exact (wI_X9_valueAt_b157  hS)
            · refine zwl_v (fun u19 => ?_)
              refine zwl_g ?_
              refine zwl_g ?_
              refine zwl_t (fun r22 => ?_)
              refine zwl_g ?_
              refine zwl_sIn hS (fun S25 e2 => ?_)
              exact (wI_X9_valueAt_b157  e2)
set_option maxHeartbeats 40000 in
set_option maxRecDepth 100000 in
theorem wI_X9_valueAt_b177 {T : zT} {s0 : Int64} {S S0 : zS} {a b : Nat}  (hS : S.1 a b = S0.1 a b) : zwl (fX9_valueAt_b177 T s0 S) (fun q0 => q0.2.1 a b = S0.1 a b) := by
  unfold fX9_valueAt_b177
  exact zwl_r hS
set_option maxHeartbeats 40000 in
set_option maxRecDepth 100000 in
theorem wI_X9_valueAt_b163 {T : zT} {k0 : Nat} {x3 : Int32} {S S0 : zS} {a b : Nat}  (hS : S.1 a b = S0.1 a b) : zwl (fX9_valueAt_b163 T k0 x3 S) (fun q0 => q0.2.1 a b = S0.1 a b) := by
  unfold fX9_valueAt_b163
  refine zwl_i ?_ ?_
  · exact (wI_X9_valueAt_b177  hS)
  · refine zwl_g ?_
    exact (wI_X9_valueAt_b177  hS)
set_option maxHeartbeats 40000 in
set_option maxRecDepth 100000 in
theorem wI_X9_valueAt {T : zT} {k0 : Nat} {k1 : Nat} {x2 : Int32} {S S0 : zS} {a b : Nat}  (hS : S.1 a b = S0.1 a b) : zwl (fX9_valueAt T k0 k1 x2 S) (fun q0 => q0.2.1 a b = S0.1 a b) := by
  unfold fX9_valueAt
  refine zwl_b1 (zwl_lp (I := (fun q0 => q0.2.2.1 a b = S0.1 a b)) (Q := (Sum.elim (fun q1 => q1.2.1 a b = S0.1 a b) (fun q1 => q1.2.1 a b = S0.1 a b))) (fun a e3 => (wI_X9_valueAt_l5  e3)) hS) (fun e30 e1 => ?_)
  refine zwl_m e1 (fun e30_0 e4 => ?_) (fun e30_1 e5 => ?_)
  · exact (wI_X9_valueAt_b163  e4)
  · exact (wI_X9_valueAt_b163  e5)
set_option maxHeartbeats 40000 in
set_option maxRecDepth 100000 in
theorem wI_X11_feed {T : zT} {k0 : Nat} {x1 : Int32} {x2 : Int32} {x3 : Int32} {x4 : Int32} {x5 : Int32} {S S0 : zS} {a b : Nat} (h0 : ¬ a = zr T k0 0) (h1 : ¬ (a = k0 ∧ b = 1)) (hS : S.1 a b = S0.1 a b) : zwl (fX11_feed T k0 x1 x2 x3 x4 x5 S) (fun q0 => q0.2.1 a b = S0.1 a b) := by
  unfold fX11_feed
  refine zwl_i ?_ ?_
  · refine zwl_b (wI_X11_putBytes h0 h1 hS) (fun r1 S4 e2 => ?_)
    refine zwl_b (wI_X11_putBytes h0 h1 e2) (fun r3 S7 e4 => ?_)
    refine zwl_b (wI_X11_putBytes h0 h1 e4) (fun r5 S10 e6 => ?_)
    refine zwl_b (wI_X11_putBytes h0 h1 e6) (fun r7 S13 e8 => ?_)
    refine zwl_b (wI_X11_putBytes h0 h1 e8) (fun r9 S16 e10 => ?_)
    exact zwl_r e10
  · exact zwl_r hS
set_option maxHeartbeats 40000 in
set_option maxRecDepth 100000 in
theorem wI_X11_act_b67 {T : zT} {S S0 : zS} {a b : Nat}  (hS : S.1 a b = S0.1 a b) : zwl (fX11_act_b67 T S) (fun q0 => q0.2.1 a b = S0.1 a b) := by
  unfold fX11_act_b67
  exact zwl_r hS
set_option maxHeartbeats 40000 in
set_option maxRecDepth 100000 in
theorem wI_X11_act_b42 {T : zT} {k0 : Nat} {x1 : Int32} {x2 : Int32} {x3 : Int32} {s0 : Int32} {S S0 : zS} {a b : Nat} (h0 : ¬ a = zr T (zr T k0 5) 0) (h1 : ¬ a = zr T (zr T k0 5) 1) (h2 : ¬ a = zr T (zr T k0 5) 2) (h3 : ¬ (a = zr T k0 5 ∧ b = 3)) (hS : S.1 a b = S0.1 a b) : zwl (fX11_act_b42 T k0 x1 x2 x3 s0 S) (fun q0 => q0.2.1 a b = S0.1 a b) := by
  unfold fX11_act_b42
  refine zwl_i ?_ ?_
  · exact (wI_X11_act_b67  hS)
  · refine zwl_t (fun r4 => ?_)
    refine zwl_i ?_ ?_
    · exact (wI_X11_act_b67  hS)
    · refine zwl_t (fun r7 => ?_)
      refine zwl_i ?_ ?_
      · exact (wI_X11_act_b67  hS)
      · refine zwl_b (wI_X7_add h0 h1 h2 h3 hS) (fun r1 S12 e2 => ?_)
        exact zwl_r e2
set_option maxHeartbeats 40000 in
set_option maxRecDepth 100000 in
theorem wI_X11_act_b41 {T : zT} {k0 : Nat} {x1 : Int32} {x2 : Int32} {x3 : Int32} {S S0 : zS} {a b : Nat} (h0 : ¬ a = zr T (zr T k0 5) 0) (h1 : ¬ a = zr T (zr T k0 5) 1) (h2 : ¬ a = zr T (zr T k0 5) 2) (h3 : ¬ (a = zr T k0 5 ∧ b = 3)) (hS : S.1 a b = S0.1 a b) : zwl (fX11_act_b41 T k0 x1 x2 x3 S) (fun q0 => q0.2.1 a b = S0.1 a b) := by
  unfold fX11_act_b41
  exact (wI_X11_act_b42 h0 h1 h2 h3 hS)
set_option maxHeartbeats 40000 in
set_option maxRecDepth 100000 in
theorem wI_X11_act {T : zT} {k0 : Nat} {x1 : Int32} {x2 : Int32} {x3 : Int32} {S S0 : zS} {a b : Nat} (h0 : ¬ a = zr T (zr T k0 5) 0) (h1 : ¬ a = zr T (zr T k0 5) 1) (h2 : ¬ a = zr T (zr T k0 5) 2) (h3 : ¬ (a = zr T k0 5 ∧ b = 3)) (hS : S.1 a b = S0.1 a b) : zwl (fX11_act T k0 x1 x2 x3 S) (fun q0 => q0.2.1 a b = S0.1 a b) := by
  unfold fX11_act
  refine zwl_i ?_ ?_
  · refine zwl_i ?_ ?_
    · exact (wI_X11_act_b42 h0 h1 h2 h3 hS)
    · exact (wI_X11_act_b42 h0 h1 h2 h3 hS)
  · refine zwl_i ?_ ?_
    · exact (wI_X11_act_b41 h0 h1 h2 h3 hS)
    · refine zwl_i ?_ ?_
      · exact (wI_X11_act_b41 h0 h1 h2 h3 hS)
      · refine zwl_t (fun r14 => ?_)
        refine zwl_i ?_ ?_
        · exact (wI_X11_act_b41 h0 h1 h2 h3 hS)
        · exact (wI_X11_act_b42 h0 h1 h2 h3 hS)
set_option maxHeartbeats 40000 in
set_option maxRecDepth 100000 in
theorem wI_X12_feed {T : zT} {k0 : Nat} {x1 : Int32} {x2 : Int32} {x3 : Int32} {x4 : Int32} {x5 : Int32} {S S0 : zS} {a b : Nat} (h0 : ¬ a = zr T k0 11) (h1 : ¬ (a = k0 ∧ b = 1)) (hS : S.1 a b = S0.1 a b) : zwl (fX12_feed T k0 x1 x2 x3 x4 x5 S) (fun q0 => q0.2.1 a b = S0.1 a b) := by
  unfold fX12_feed
  refine zwl_i ?_ ?_
  · refine zwl_b (wI_X12_put h0 h1 hS) (fun r1 S4 e2 => ?_)
    refine zwl_b (wI_X12_put h0 h1 e2) (fun r3 S7 e4 => ?_)
    refine zwl_b (wI_X12_put h0 h1 e4) (fun r5 S10 e6 => ?_)
    refine zwl_b (wI_X12_put h0 h1 e6) (fun r7 S13 e8 => ?_)
    refine zwl_b (wI_X12_put h0 h1 e8) (fun r9 S16 e10 => ?_)
    exact zwl_r e10
  · exact zwl_r hS
set_option maxHeartbeats 40000 in
set_option maxRecDepth 100000 in
theorem wI_X12_blanks_l0 {T : zT} {k0 : Nat} {S S0 : zS} {a b : Nat} (h0 : ¬ (a = k0 ∧ b = 2)) (hS : S.1 a b = S0.1 a b) : zwl (fX12_blanks_l0 T k0 S) (Sum.elim (fun q1 => q1.1 a b = S0.1 a b) (fun q1 => q1.1 a b = S0.1 a b)) := by
  unfold fX12_blanks_l0
  refine zwl_t (fun r1 => ?_)
  refine zwl_i ?_ ?_
  · refine zwl_sIf h0 hS (fun S4 e1 => ?_)
    exact zwl_r e1
  · exact zwl_r hS
set_option maxHeartbeats 40000 in
set_option maxRecDepth 100000 in
theorem wI_X12_blanks {T : zT} {k0 : Nat} {S S0 : zS} {a b : Nat} (h0 : ¬ (a = k0 ∧ b = 2)) (hS : S.1 a b = S0.1 a b) : zwl (fX12_blanks T k0 S) (fun q0 => q0.2.1 a b = S0.1 a b) := by
  unfold fX12_blanks
  refine zwl_b1 (zwl_lp (I := (fun q0 => q0.1 a b = S0.1 a b)) (Q := (fun q0 => q0.1 a b = S0.1 a b)) (fun a e3 => (wI_X12_blanks_l0 h0 e3)) hS) (fun e5 e1 => ?_)
  exact zwl_r e1
set_option maxHeartbeats 40000 in
set_option maxRecDepth 100000 in
theorem wI_X12_isCounted_b15 {T : zT} {k0 : Nat} {S S0 : zS} {a b : Nat} (h0 : ¬ (a = k0 ∧ b = 8)) (hS : S.1 a b = S0.1 a b) : zwl (fX12_isCounted_b15 T k0 S) (fun q0 => q0.2.1 a b = S0.1 a b) := by
  unfold fX12_isCounted_b15
  refine zwl_sIf h0 hS (fun S2 e1 => ?_)
  exact zwl_r e1
set_option maxHeartbeats 40000 in
set_option maxRecDepth 100000 in
theorem wI_X12_isCounted {T : zT} {k0 : Nat} {x1 : Int32} {S S0 : zS} {a b : Nat} (h0 : ¬ (a = k0 ∧ b = 3)) (h1 : ¬ (a = k0 ∧ b = 8)) (hS : S.1 a b = S0.1 a b) : zwl (fX12_isCounted T k0 x1 S) (fun q0 => q0.2.1 a b = S0.1 a b) := by
  unfold fX12_isCounted
  refine zwl_i ?_ ?_
  · refine zwl_b (wI_X12_fails h0 hS) (fun r1 S5 e2 => ?_)
    exact (wI_X12_isCounted_b15 h1 e2)
  · exact (wI_X12_isCounted_b15 h1 hS)
set_option maxHeartbeats 40000 in
set_option maxRecDepth 100000 in
theorem wI_X12_opens_b40 {T : zT} {k0 : Nat} {x1 : Int32} {S S0 : zS} {a b : Nat} (h0 : ¬ a = zr T k0 21) (h1 : ¬ (a = k0 ∧ b = 9)) (hS : S.1 a b = S0.1 a b) : zwl (fX12_opens_b40 T k0 x1 S) (fun q0 => q0.2.1 a b = S0.1 a b) := by
  unfold fX12_opens_b40
  refine zwl_g ?_
  refine zwl_sIa h0 hS (fun S5 e1 => ?_)
  refine zwl_sIf h1 e1 (fun S6 e2 => ?_)
  exact zwl_r e2
set_option maxHeartbeats 40000 in
set_option maxRecDepth 100000 in
theorem wI_X12_opens_b30 {T : zT} {k0 : Nat} {x1 : Int32} {S S0 : zS} {a b : Nat} (h0 : ¬ (a = k0 ∧ b = 7)) (h1 : ¬ a = zr T k0 21) (h2 : ¬ (a = k0 ∧ b = 9)) (hS : S.1 a b = S0.1 a b) : zwl (fX12_opens_b30 T k0 x1 S) (fun q0 => q0.2.1 a b = S0.1 a b) := by
  unfold fX12_opens_b30
  refine zwl_sIf h0 hS (fun S3 e1 => ?_)
  exact (wI_X12_opens_b40 h1 h2 e1)
set_option maxHeartbeats 40000 in
set_option maxRecDepth 100000 in
theorem wI_X12_opens_b12 {T : zT} {k0 : Nat} {x1 : Int32} {S S0 : zS} {a b : Nat} (h0 : ¬ (a = k0 ∧ b = 3)) (h1 : ¬ (a = k0 ∧ b = 7)) (h2 : ¬ a = zr T k0 21) (h3 : ¬ (a = k0 ∧ b = 9)) (hS : S.1 a b = S0.1 a b) : zwl (fX12_opens_b12 T k0 x1 S) (fun q0 => q0.2.1 a b = S0.1 a b) := by
  unfold fX12_opens_b12
  refine zwl_i ?_ ?_
  · refine zwl_b (wI_X12_fails h0 hS) (fun r1 S9 e2 => ?_)
    exact (wI_X12_opens_b30 h1 h2 h3 e2)
  · exact (wI_X12_opens_b30 h1 h2 h3 hS)
set_option maxHeartbeats 40000 in
set_option maxRecDepth 100000 in
theorem wI_X12_opens {T : zT} {k0 : Nat} {x1 : Int32} {S S0 : zS} {a b : Nat} (h0 : ¬ (a = k0 ∧ b = 3)) (h1 : ¬ (a = k0 ∧ b = 7)) (h2 : ¬ a = zr T k0 21) (h3 : ¬ (a = k0 ∧ b = 9)) (hS : S.1 a b = S0.1 a b) : zwl (fX12_opens T k0 x1 S) (fun q0 => q0.2.1 a b = S0.1 a b) := by
  unfold fX12_opens
  refine zwl_i ?_ ?_
  · exact (wI_X12_opens_b12 h0 h1 h2 h3 hS)
  · refine zwl_i ?_ ?_
    · exact (wI_X12_opens_b12 h0 h1 h2 h3 hS)
    · exact (wI_X12_opens_b40 h2 h3 hS)
set_option maxHeartbeats 40000 in
set_option maxRecDepth 100000 in
theorem wI_X12_answers_b47 {T : zT} {k0 : Nat} {x1 : Int32} {s0 : Int32} {s1 : Int32} {s2 : Nat} {S S0 : zS} {a b : Nat} (h0 : ¬ (a = s2 ∧ b = 7)) (hS : S.1 a b = S0.1 a b) : zwl (fX12_answers_b47 T k0 x1 s0 s1 s2 S) (Sum.elim (fun q1 => q1.1 a b = S0.1 a b) (fun q1 => q1.1 a b = S0.1 a b)) := by
  unfold fX12_answers_b47
  refine zwl_sIf h0 hS (fun S10 e1 => ?_)
  exact zwl_r e1
set_option maxHeartbeats 40000 in
set_option maxRecDepth 100000 in
theorem wI_X12_answers_l0 {T : zT} {k0 : Nat} {x1 : Int32} {S S0 : zS} {a b : Nat} (h0 : ¬ a = zr T k0 12) (h1 : ¬ a = zr T k0 13) (h2 : ¬ (a = k0 ∧ b = 6)) (h3 : ¬ (a = k0 ∧ b = 9)) (h4 : ¬ (a = k0 ∧ b = 7)) (hS : S.1 a b = S0.1 a b) : zwl (fX12_answers_l0 T k0 x1 S) (Sum.elim (fun q1 => q1.1 a b = S0.1 a b) (fun q1 => q1.1 a b = S0.1 a b)) := by
  unfold fX12_answers_l0
  refine zwl_t (fun r1 => ?_)
  refine zwl_i ?_ ?_
  · refine zwl_i ?_ ?_
    · refine zwl_b (wI_X12_entry h0 h1 h2 hS) (fun r1 S7 e2 => ?_)
      refine zwl_sIf h3 e2 (fun S8 e3 => ?_)
      refine zwl_i ?_ ?_
      · exact (wI_X12_answers_b47 h4 e3)
      · exact (wI_X12_answers_b47 h4 e3)
    · exact zwl_r hS
  · exact zwl_r hS
set_option maxHeartbeats 40000 in
set_option maxRecDepth 100000 in
theorem wI_X12_answers_b54 {T : zT} {S S0 : zS} {a b : Nat}  (hS : S.1 a b = S0.1 a b) : zwl (fX12_answers_b54 T S) (fun q0 => q0.2.1 a b = S0.1 a b) := by
  unfold fX12_answers_b54
  exact zwl_r hS
set_option maxHeartbeats 40000 in
set_option maxRecDepth 100000 in
theorem wI_X12_answers {T : zT} {k0 : Nat} {x1 : Int32} {S S0 : zS} {a b : Nat} (h0 : ¬ a = zr T k0 12) (h1 : ¬ a = zr T k0 13) (h2 : ¬ (a = k0 ∧ b = 6)) (h3 : ¬ (a = k0 ∧ b = 9)) (h4 : ¬ (a = k0 ∧ b = 7)) (hS : S.1 a b = S0.1 a b) : zwl (fX12_answers T k0 x1 S) (fun q0 => q0.2.1 a b = S0.1 a b) := by
  unfold fX12_answers
  refine zwl_b1 (zwl_lp (I := (fun q0 => q0.1 a b = S0.1 a b)) (Q := (fun q0 => q0.1 a b = S0.1 a b)) (fun a e3 => (wI_X12_answers_l0 h0 h1 h2 h3 h4 e3)) hS) (fun e11 e1 => ?_)
  exact (wI_X12_answers_b54  e1)
set_option maxHeartbeats 40000 in
set_option maxRecDepth 100000 in
theorem wI_X12_row {T : zT} {k0 : Nat} {x1 : Int32} {S S0 : zS} {a b : Nat} (h0 : ¬ (a = k0 ∧ b = 36)) (hS : S.1 a b = S0.1 a b) : zwl (fX12_row T k0 x1 S) (fun q0 => q0.2.1 a b = S0.1 a b) := by
  unfold fX12_row
  refine zwl_t (fun r1 => ?_)
  refine zwl_i ?_ ?_
  · exact zwl_r hS
  · refine zwl_sIf h0 hS (fun S4 e1 => ?_)
    exact zwl_r e1
set_option maxHeartbeats 40000 in
set_option maxRecDepth 100000 in
theorem wI_X12_does_b205 {T : zT} {S S0 : zS} {a b : Nat}  (hS : S.1 a b = S0.1 a b) : zwl (fX12_does_b205 T S) (fun q0 => q0.2.1 a b = S0.1 a b) := by
  unfold fX12_does_b205
  exact zwl_r hS
set_option maxHeartbeats 40000 in
set_option maxRecDepth 100000 in
theorem wI_X12_does_b376 {T : zT} {S S0 : zS} {a b : Nat}  (hS : S.1 a b = S0.1 a b) : zwl (fX12_does_b376 T S) (fun q0 => q0.2.1 a b = S0.1 a b) := by
  unfold fX12_does_b376
  exact zwl_r hS
set_option maxHeartbeats 40000 in
set_option maxRecDepth 100000 in
theorem wI_X12_does_b283 {T : zT} {k0 : Nat} {x2 : Int32} {x3 : Int32} {x4 : Int32} {x5 : Int32} {s0 : Int32} {s1 : Int32} {s2 : Nat} {m2 : Nat} {S S0 : zS} {a b : Nat} (h0 : ¬ a = s2) (h1 : ¬ a = zr T k0 41) (h2 : ¬ a = zr T k0 42) (h3 : ¬ a = zr T k0 43) (h4 : ¬ a = zr T k0 46) (hS : S.1 a b = S0.1 a b) : zwl (fX12_does_b283 T k0 x2 x3 x4 x5 s0 s1 s2 m2 S) (fun q0 => q0.2.1 a b = S0.1 a b) := by
  unfold fX12_does_b283
  refine zwl_g ?_
  refine zwl_sIa h0 hS (fun S22 e1 => ?_)
  refine zwl_i ?_ ?_
  · refine zwl_g ?_
    refine zwl_g ?_
    refine zwl_sIa h1 e1 (fun S38 e2 => ?_)
    refine zwl_g ?_
    refine zwl_g ?_
    refine zwl_sIa h2 e2 (fun S41 e3 => ?_)
    refine zwl_g ?_
    refine zwl_sIa h3 e3 (fun S43 e4 => ?_)
    refine zwl_g ?_
    refine zwl_sIa h4 e4 (fun S45 e5 => ?_)
    exact (wI_X12_does_b376  e5)
  · refine zwl_i ?_ ?_
    · refine zwl_t (fun r25 => ?_)
      refine zwl_g ?_
      refine zwl_sIa h1 e1 (fun S28 e6 => ?_)
      refine zwl_g ?_
      refine zwl_g ?_
      refine zwl_sIa h2 e6 (fun S31 e7 => ?_)
      refine zwl_g ?_
      refine zwl_sIa h3 e7 (fun S33 e8 => ?_)
      refine zwl_g ?_
      refine zwl_sIa h4 e8 (fun S35 e9 => ?_)
      exact (wI_X12_does_b376  e9)
    · exact (wI_X12_does_b376  e1)
set_option maxHeartbeats 40000 in
set_option maxRecDepth 100000 in
theorem wI_X12_does_b254 {T : zT} {k0 : Nat} {x2 : Int32} {x3 : Int32} {x4 : Int32} {x5 : Int32} {s0 : Int32} {s1 : Int32} {s2 : Nat} {S S0 : zS} {a b : Nat} (h0 : ¬ (a = s2 ∧ b = 48)) (h1 : ¬ a = zr T k0 40) (h2 : ¬ a = zr T k0 41) (h3 : ¬ a = zr T k0 42) (h4 : ¬ a = zr T k0 43) (h5 : ¬ a = zr T k0 46) (hS : S.1 a b = S0.1 a b) : zwl (fX12_does_b254 T k0 x2 x3 x4 x5 s0 s1 s2 S) (fun q0 => q0.2.1 a b = S0.1 a b) := by
  unfold fX12_does_b254
  refine zwl_sIf h0 hS (fun S18 e1 => ?_)
  refine zwl_i ?_ ?_
  · exact (wI_X12_does_b283 h1 h2 h3 h4 h5 e1)
  · refine zwl_i ?_ ?_
    · exact (wI_X12_does_b283 h1 h2 h3 h4 h5 e1)
    · exact (wI_X12_does_b283 h1 h2 h3 h4 h5 e1)
set_option maxHeartbeats 40000 in
set_option maxRecDepth 100000 in
theorem wI_X12_does_b207 {T : zT} {k0 : Nat} {x2 : Int32} {x3 : Int32} {x4 : Int32} {x5 : Int32} {S S0 : zS} {a b : Nat} (h0 : ¬ (a = k0 ∧ b = 48)) (h1 : ¬ a = zr T k0 40) (h2 : ¬ a = zr T k0 41) (h3 : ¬ a = zr T k0 42) (h4 : ¬ a = zr T k0 43) (h5 : ¬ a = zr T k0 46) (hS : S.1 a b = S0.1 a b) : zwl (fX12_does_b207 T k0 x2 x3 x4 x5 S) (fun q0 => q0.2.1 a b = S0.1 a b) := by
  unfold fX12_does_b207
  refine zwl_sIf h0 hS (fun S15 e1 => ?_)
  refine zwl_i ?_ ?_
  · refine zwl_g ?_
    exact (wI_X12_does_b254 h0 h1 h2 h3 h4 h5 e1)
  · refine zwl_i ?_ ?_
    · refine zwl_g ?_
      exact (wI_X12_does_b254 h0 h1 h2 h3 h4 h5 e1)
    · exact (wI_X12_does_b254 h0 h1 h2 h3 h4 h5 e1)
set_option maxHeartbeats 40000 in
set_option maxRecDepth 100000 in
theorem wI_X12_does_b178 {T : zT} {k0 : Nat} {x2 : Int32} {x3 : Int32} {x4 : Int32} {x5 : Int32} {s0 : Int32} {s1 : Int32} {S S0 : zS} {a b : Nat} (h0 : ¬ (a = k0 ∧ b = 48)) (h1 : ¬ a = zr T k0 40) (h2 : ¬ a = zr T k0 41) (h3 : ¬ a = zr T k0 42) (h4 : ¬ a = zr T k0 43) (h5 : ¬ a = zr T k0 46) (hS : S.1 a b = S0.1 a b) : zwl (fX12_does_b178 T k0 x2 x3 x4 x5 s0 s1 S) (fun q0 => q0.2.1 a b = S0.1 a b) := by
  unfold fX12_does_b178
  refine zwl_i ?_ ?_
  · refine zwl_i ?_ ?_
    · exact (wI_X12_does_b205  hS)
    · refine zwl_i ?_ ?_
      · refine zwl_g ?_
        refine zwl_i ?_ ?_
        · exact (wI_X12_does_b207 h0 h1 h2 h3 h4 h5 hS)
        · exact (wI_X12_does_b205  hS)
      · exact (wI_X12_does_b207 h0 h1 h2 h3 h4 h5 hS)
  · exact (wI_X12_does_b205  hS)
set_option maxHeartbeats 40000 in
set_option maxRecDepth 100000 in
theorem wI_X12_does_b159 {T : zT} {k0 : Nat} {x2 : Int32} {x3 : Int32} {x4 : Int32} {s0 : Int32} {S S0 : zS} {a b : Nat} (h0 : ¬ (a = k0 ∧ b = 48)) (h1 : ¬ a = zr T k0 40) (h2 : ¬ a = zr T k0 41) (h3 : ¬ a = zr T k0 42) (h4 : ¬ a = zr T k0 43) (h5 : ¬ a = zr T k0 46) (hS : S.1 a b = S0.1 a b) : zwl (fX12_does_b159 T k0 x2 x3 x4 s0 S) (fun q0 => q0.2.1 a b = S0.1 a b) := by
  unfold fX12_does_b159
  refine zwl_g ?_
  refine zwl_i ?_ ?_
  · exact (wI_X12_does_b178 h0 h1 h2 h3 h4 h5 hS)
  · exact (wI_X12_does_b178 h0 h1 h2 h3 h4 h5 hS)
set_option maxHeartbeats 40000 in
set_option maxRecDepth 100000 in
theorem wI_X12_does_b119 {T : zT} {x5 : Int32} {s0 : Int32} {s1 : Nat} {S S0 : zS} {a b : Nat} (h0 : ¬ (a = s1 ∧ b = 47)) (hS : S.1 a b = S0.1 a b) : zwl (fX12_does_b119 T x5 s0 s1 S) (fun q0 => q0.2.1 a b = S0.1 a b) := by
  unfold fX12_does_b119
  refine zwl_g ?_
  refine zwl_sIf h0 hS (fun S59 e1 => ?_)
  refine zwl_g ?_
  exact zwl_r e1
set_option maxHeartbeats 40000 in
set_option maxRecDepth 100000 in
theorem wI_X12_does_b114 {T : zT} {x5 : Int32} {s0 : Nat} {S S0 : zS} {a b : Nat} (h0 : ¬ (a = s0 ∧ b = 47)) (hS : S.1 a b = S0.1 a b) : zwl (fX12_does_b114 T x5 s0 S) (fun q0 => q0.2.1 a b = S0.1 a b) := by
  unfold fX12_does_b114
  exact (wI_X12_does_b119 h0 hS)
set_option maxHeartbeats 40000 in
set_option maxRecDepth 100000 in
theorem wI_X12_does_b97 {T : zT} {k0 : Nat} {x5 : Int32} {s0 : Int32} {s1 : Int32} {s2 : Nat} {S S0 : zS} {a b : Nat} (h0 : ¬ (a = s2 ∧ b = 48)) (h1 : ¬ (a = k0 ∧ b = 47)) (hS : S.1 a b = S0.1 a b) : zwl (fX12_does_b97 T k0 x5 s0 s1 s2 S) (fun q0 => q0.2.1 a b = S0.1 a b) := by
  unfold fX12_does_b97
  refine zwl_sIf h0 hS (fun S56 e1 => ?_)
  refine zwl_i ?_ ?_
  · refine zwl_i ?_ ?_
    · exact (wI_X12_does_b119 h1 e1)
    · exact (wI_X12_does_b114 h1 e1)
  · exact (wI_X12_does_b114 h1 e1)
set_option maxHeartbeats 40000 in
set_option maxRecDepth 100000 in
theorem wI_X12_does_b75 {T : zT} {k0 : Nat} {s0 : Int32} {S S0 : zS} {a b : Nat} (h0 : ¬ (a = k0 ∧ b = 48)) (h1 : ¬ (a = k0 ∧ b = 47)) (hS : S.1 a b = S0.1 a b) : zwl (fX12_does_b75 T k0 s0 S) (fun q0 => q0.2.1 a b = S0.1 a b) := by
  unfold fX12_does_b75
  refine zwl_i ?_ ?_
  · exact (wI_X12_does_b97 h0 h1 hS)
  · refine zwl_g ?_
    exact (wI_X12_does_b97 h0 h1 hS)
set_option maxHeartbeats 40000 in
set_option maxRecDepth 100000 in
theorem wI_X12_does_b74 {T : zT} {k0 : Nat} {S S0 : zS} {a b : Nat} (h0 : ¬ (a = k0 ∧ b = 48)) (h1 : ¬ (a = k0 ∧ b = 47)) (hS : S.1 a b = S0.1 a b) : zwl (fX12_does_b74 T k0 S) (fun q0 => q0.2.1 a b = S0.1 a b) := by
  unfold fX12_does_b74
  exact (wI_X12_does_b75 h0 h1 hS)
set_option maxHeartbeats 40000 in
set_option maxRecDepth 100000 in
theorem wI_X12_does {T : zT} {k0 : Nat} {x1 : Int32} {S S0 : zS} {a b : Nat} (h0 : ¬ (a = k0 ∧ b = 48)) (h1 : ¬ (a = k0 ∧ b = 47)) (h2 : ¬ a = zr T k0 40) (h3 : ¬ a = zr T k0 41) (h4 : ¬ a = zr T k0 42) (h5 : ¬ a = zr T k0 43) (h6 : ¬ a = zr T k0 46) (hS : S.1 a b = S0.1 a b) : zwl (fX12_does T k0 x1 S) (fun q0 => q0.2.1 a b = S0.1 a b) := by
  unfold fX12_does
  refine zwl_g ?_
  refine zwl_v (fun u2 => ?_)
  refine zwl_g ?_
  refine zwl_v (fun u4 => ?_)
  refine zwl_g ?_
  refine zwl_v (fun u6 => ?_)
  refine zwl_i ?_ ?_
  · refine zwl_i ?_ ?_
    · refine zwl_g ?_
      refine zwl_i ?_ ?_
      · exact (wI_X12_does_b74 h0 h1 hS)
      · refine zwl_g ?_
        refine zwl_g ?_
        refine zwl_i ?_ ?_
        · exact (wI_X12_does_b74 h0 h1 hS)
        · refine zwl_g ?_
          refine zwl_i ?_ ?_
          · exact (wI_X12_does_b74 h0 h1 hS)
          · exact (wI_X12_does_b75 h0 h1 hS)
    · exact (wI_X12_does_b74 h0 h1 hS)
  · refine zwl_i ?_ ?_
    · refine zwl_t (fun r52 => ?_)
      exact (wI_X12_does_b159 h0 h2 h3 h4 h5 h6 hS)
    · refine zwl_i ?_ ?_
      · refine zwl_t (fun r50 => ?_)
        exact (wI_X12_does_b159 h0 h2 h3 h4 h5 h6 hS)
      · exact (wI_X12_does_b159 h0 h2 h3 h4 h5 h6 hS)
set_option maxHeartbeats 40000 in
set_option maxRecDepth 100000 in
theorem wI_X12_carries {T : zT} {k0 : Nat} {x1 : Int32} {S S0 : zS} {a b : Nat} (h0 : ¬ (a = k0 ∧ b = 65)) (h1 : ¬ a = zr T k0 67) (h2 : ¬ a = zr T k0 63) (h3 : ¬ (a = k0 ∧ b = 36)) (h4 : ¬ a = zr T k0 12) (h5 : ¬ a = zr T k0 13) (h6 : ¬ a = zr T k0 14) (h7 : ¬ a = zr T k0 15) (h8 : ¬ a = zr T k0 16) (h9 : ¬ a = zr T k0 17) (h10 : ¬ a = zr T k0 19) (h11 : ¬ a = zr T k0 20) (h12 : ¬ a = zr T k0 22) (h13 : ¬ a = zr T k0 23) (h14 : ¬ a = zr T k0 24) (h15 : ¬ a = zr T k0 25) (h16 : ¬ a = zr T k0 26) (h17 : ¬ a = zr T k0 27) (h18 : ¬ a = zr T k0 28) (h19 : ¬ a = zr T k0 29) (h20 : ¬ a = zr T k0 30) (h21 : ¬ a = zr T k0 31) (h22 : ¬ a = zr T k0 32) (h23 : ¬ a = zr T k0 33) (h24 : ¬ a = zr T k0 37) (h25 : ¬ a = zr T k0 38) (h26 : ¬ a = zr T k0 39) (hS : S.1 a b = S0.1 a b) : zwl (fX12_carries T k0 x1 S) (fun q0 => q0.2.1 a b = S0.1 a b) := by
  unfold fX12_carries
  refine zwl_sIf h0 hS (fun S1 e1 => ?_)
  refine zwl_g ?_
  refine zwl_sIa h1 e1 (fun S3 e2 => ?_)
  refine zwl_b (wI_X12_carry h2 h0 h1 e2) (fun r3 S6 e4 => ?_)
  refine zwl_g ?_
  refine zwl_sIf h3 e4 (fun S8 e5 => ?_)
  refine zwl_b (wI_X12_carry h2 h0 h4 e5) (fun r6 S11 e7 => ?_)
  refine zwl_b (wI_X12_carry h2 h0 h5 e7) (fun r8 S14 e9 => ?_)
  refine zwl_b (wI_X12_carry h2 h0 h6 e9) (fun r10 S17 e11 => ?_)
  refine zwl_b (wI_X12_carry h2 h0 h7 e11) (fun r12 S20 e13 => ?_)
  refine zwl_b (wI_X12_carry h2 h0 h8 e13) (fun r14 S23 e15 => ?_)
  refine zwl_b (wI_X12_carry h2 h0 h9 e15) (fun r16 S26 e17 => ?_)
  refine zwl_b (wI_X12_carry h2 h0 h10 e17) (fun r18 S29 e19 => ?_)
  refine zwl_b (wI_X12_carry h2 h0 h11 e19) (fun r20 S32 e21 => ?_)
  refine zwl_b (wI_X12_carry h2 h0 h12 e21) (fun r22 S35 e23 => ?_)
  refine zwl_b (wI_X12_carry h2 h0 h13 e23) (fun r24 S38 e25 => ?_)
  refine zwl_b (wI_X12_carry h2 h0 h14 e25) (fun r26 S41 e27 => ?_)
  refine zwl_b (wI_X12_carry h2 h0 h15 e27) (fun r28 S44 e29 => ?_)
  refine zwl_b (wI_X12_carry h2 h0 h16 e29) (fun r30 S47 e31 => ?_)
  refine zwl_b (wI_X12_carry h2 h0 h17 e31) (fun r32 S50 e33 => ?_)
  refine zwl_b (wI_X12_carry h2 h0 h18 e33) (fun r34 S53 e35 => ?_)
  refine zwl_b (wI_X12_carry h2 h0 h19 e35) (fun r36 S56 e37 => ?_)
  refine zwl_b (wI_X12_carry h2 h0 h20 e37) (fun r38 S59 e39 => ?_)
  refine zwl_b (wI_X12_carry h2 h0 h21 e39) (fun r40 S62 e41 => ?_)
  refine zwl_b (wI_X12_carry h2 h0 h22 e41) (fun r42 S65 e43 => ?_)
  refine zwl_b (wI_X12_carry h2 h0 h23 e43) (fun r44 S68 e45 => ?_)
  refine zwl_b (wI_X12_carry h2 h0 h24 e45) (fun r46 S71 e47 => ?_)
  refine zwl_b (wI_X12_carry h2 h0 h25 e47) (fun r48 S74 e49 => ?_)
  refine zwl_b (wI_X12_carry h2 h0 h26 e49) (fun r50 S77 e51 => ?_)
  exact zwl_r e51
set_option maxHeartbeats 40000 in
set_option maxRecDepth 100000 in
theorem wI_X0_take {T : zT} {k0 : Nat} {k1 : Nat} {S S0 : zS} {a b : Nat} (h0 : ¬ (a = k0 ∧ b = 0)) (h1 : ¬ (a = k0 ∧ b = 1)) (h2 : ¬ (a = k0 ∧ b = 2)) (h3 : ¬ (a = k0 ∧ b = 3)) (h4 : ¬ (a = k0 ∧ b = 4)) (h5 : ¬ (a = k0 ∧ b = 5)) (h6 : ¬ a = zr T k0 6) (h7 : ¬ a = zr T k0 7) (h8 : ¬ a = zr T k0 8) (h9 : ¬ a = zr T k0 9) (h10 : ¬ a = zr T k0 10) (h11 : ¬ a = zr T k0 11) (h12 : ¬ a = zr T (zr T k0 12) 0) (h13 : ¬ a = zr T (zr T k0 12) 1) (h14 : ¬ a = zr T (zr T k0 12) 2) (h15 : ¬ (a = zr T k0 12 ∧ b = 3)) (h16 : ¬ a = zr T (zr T k0 13) 0) (h17 : ¬ a = zr T (zr T k0 13) 1) (h18 : ¬ a = zr T (zr T k0 13) 2) (h19 : ¬ (a = zr T k0 13 ∧ b = 3)) (h20 : ¬ a = zr T (zr T k0 14) 0) (h21 : ¬ (a = zr T k0 14 ∧ b = 1)) (h22 : ¬ (a = zr T k0 14 ∧ b = 2)) (hS : S.1 a b = S0.1 a b) : zwl (fX0_take T k0 k1 S) (fun q0 => q0.2.1 a b = S0.1 a b) := by
  unfold fX0_take
  refine zwl_sIf h0 hS (fun S1 e1 => ?_)
  refine zwl_sIf h1 e1 (fun S2 e2 => ?_)
  refine zwl_sIf h2 e2 (fun S3 e3 => ?_)
  refine zwl_sIf h3 e3 (fun S4 e4 => ?_)
  refine zwl_sIf h4 e4 (fun S5 e5 => ?_)
  refine zwl_sIf h5 e5 (fun S6 e6 => ?_)
  refine zwl_g ?_
  refine zwl_sIC h6 e6 (fun S8 e7 => ?_)
  refine zwl_g ?_
  refine zwl_sIC h7 e7 (fun S10 e8 => ?_)
  refine zwl_g ?_
  refine zwl_sIC h8 e8 (fun S12 e9 => ?_)
  refine zwl_g ?_
  refine zwl_sIC h9 e9 (fun S14 e10 => ?_)
  refine zwl_g ?_
  refine zwl_sIC h10 e10 (fun S16 e11 => ?_)
  refine zwl_g ?_
  refine zwl_sIC h11 e11 (fun S18 e12 => ?_)
  refine zwl_b (wI_X1_take h12 h13 h14 h15 e12) (fun r13 S21 e14 => ?_)
  refine zwl_b (wI_X1_take h16 h17 h18 h19 e14) (fun r15 S24 e16 => ?_)
  refine zwl_b (wI_X2_take h20 h21 h22 e16) (fun r17 S27 e18 => ?_)
  exact zwl_r e18
set_option maxHeartbeats 40000 in
set_option maxRecDepth 100000 in
theorem wI_X1_holding_b56 {T : zT} {k0 : Nat} {k1 : Nat} {k2 : Nat} {x3 : Int32} {x4 : Int32} {S S0 : zS} {a b : Nat}  (hS : S.1 a b = S0.1 a b) : zwl (fX1_holding_b56 T k0 k1 k2 x3 x4 S) (Sum.elim (fun q1 => q1.2.2.1 a b = S0.1 a b) (fun q1 => q1.2.1 a b = S0.1 a b)) := by
  unfold fX1_holding_b56
  refine zwl_v (fun u6 => ?_)
  exact zwl_r hS
set_option maxHeartbeats 40000 in
set_option maxRecDepth 100000 in
theorem wI_X1_holding_b49 {T : zT} {k0 : Nat} {k1 : Nat} {k2 : Nat} {x3 : Int32} {x4 : Int32} {S S0 : zS} {a b : Nat}  (hS : S.1 a b = S0.1 a b) : zwl (fX1_holding_b49 T k0 k1 k2 x3 x4 S) (Sum.elim (fun q1 => q1.2.2.1 a b = S0.1 a b) (fun q1 => q1.2.1 a b = S0.1 a b)) := by
  unfold fX1_holding_b49
  refine zwl_v (fun u5 => ?_)
  exact (wI_X1_holding_b56  hS)
set_option maxHeartbeats 40000 in
set_option maxRecDepth 100000 in
theorem wI_X1_holding_l5 {T : zT} {k0 : Nat} {k1 : Nat} {k2 : Nat} {x3 : Int32} {x4 : Int32} {S S0 : zS} {a b : Nat}  (hS : S.1 a b = S0.1 a b) : zwl (fX1_holding_l5 T k0 k1 k2 x3 x4 S) (Sum.elim (fun q1 => q1.2.2.1 a b = S0.1 a b) (fun q1 => q1.2.1 a b = S0.1 a b)) := by
  unfold fX1_holding_l5
  refine zwl_i ?_ ?_
  · exact zwl_r hS
  · refine zwl_i ?_ ?_
    · exact zwl_r hS
    · refine zwl_g ?_
      refine zwl_i ?_ ?_
      · exact (wI_X1_holding_b49  hS)
      · refine zwl_g ?_
        refine zwl_b (wI_X9_valueAt  hS) (fun r8 S10 e1 => ?_)
        refine zwl_i ?_ ?_
        · exact (wI_X1_holding_b56  e1)
        · exact (wI_X1_holding_b49  e1)
set_option maxHeartbeats 40000 in
set_option maxRecDepth 100000 in
theorem wI_X1_holding_b62 {T : zT} {x3 : Int32} {S S0 : zS} {a b : Nat}  (hS : S.1 a b = S0.1 a b) : zwl (fX1_holding_b62 T x3 S) (fun q0 => q0.2.1 a b = S0.1 a b) := by
  unfold fX1_holding_b62
  exact zwl_r hS
set_option maxHeartbeats 40000 in
set_option maxRecDepth 100000 in
theorem wI_X1_holding {T : zT} {k0 : Nat} {k1 : Nat} {k2 : Nat} {S S0 : zS} {a b : Nat}  (hS : S.1 a b = S0.1 a b) : zwl (fX1_holding T k0 k1 k2 S) (fun q0 => q0.2.1 a b = S0.1 a b) := by
  unfold fX1_holding
  refine zwl_b1 (zwl_lp (I := (fun q0 => q0.2.2.1 a b = S0.1 a b)) (Q := (fun q0 => q0.2.1 a b = S0.1 a b)) (fun a e3 => (wI_X1_holding_l5  e3)) hS) (fun e12 e1 => ?_)
  exact (wI_X1_holding_b62  e1)
set_option maxHeartbeats 40000 in
set_option maxRecDepth 100000 in
theorem wI_X4_startWeek_b80 {T : zT} {S S0 : zS} {a b : Nat}  (hS : S.1 a b = S0.1 a b) : zwl (fX4_startWeek_b80 T S) (fun q0 => q0.2.1 a b = S0.1 a b) := by
  unfold fX4_startWeek_b80
  exact zwl_r hS
set_option maxHeartbeats 40000 in
set_option maxRecDepth 100000 in
theorem wI_X4_startWeek {T : zT} {k0 : Nat} {x1 : Int32} {S S0 : zS} {a b : Nat} (h0 : ¬ (a = k0 ∧ b = 5)) (h1 : ¬ (a = k0 ∧ b = 3)) (h2 : ¬ (a = k0 ∧ b = 7)) (hS : S.1 a b = S0.1 a b) : zwl (fX4_startWeek T k0 x1 S) (fun q0 => q0.2.1 a b = S0.1 a b) := by
  unfold fX4_startWeek
  refine zwl_t (fun r1 => ?_)
  refine zwl_sIf h0 hS (fun S3 e1 => ?_)
  refine zwl_i ?_ ?_
  · exact (wI_X4_startWeek_b80  e1)
  · refine zwl_i ?_ ?_
    · refine zwl_i ?_ ?_
      · refine zwl_sIf h1 e1 (fun S7 e2 => ?_)
        exact (wI_X4_startWeek_b80  e2)
      · refine zwl_sIf h2 e1 (fun S8 e3 => ?_)
        exact (wI_X4_startWeek_b80  e3)
    · exact (wI_X4_startWeek_b80  e1)
set_option maxHeartbeats 40000 in
set_option maxRecDepth 100000 in
theorem wI_X4_fetchOne_b21 {T : zT} {S S0 : zS} {a b : Nat}  (hS : S.1 a b = S0.1 a b) : zwl (fX4_fetchOne_b21 T S) (fun q0 => q0.2.1 a b = S0.1 a b) := by
  unfold fX4_fetchOne_b21
  exact zwl_r hS
set_option maxHeartbeats 40000 in
set_option maxRecDepth 100000 in
theorem wI_X4_fetchOne {T : zT} {k0 : Nat} {x1 : Int32} {x2 : Int32} {S S0 : zS} {a b : Nat} (h0 : ¬ (a = k0 ∧ b = 3)) (h1 : ¬ (a = k0 ∧ b = 4)) (h2 : ¬ a = zr T k0 11) (hS : S.1 a b = S0.1 a b) : zwl (fX4_fetchOne T k0 x1 x2 S) (fun q0 => q0.2.1 a b = S0.1 a b) := by
  unfold fX4_fetchOne
  refine zwl_t (fun r1 => ?_)
  refine zwl_i ?_ ?_
  · exact (wI_X4_fetchOne_b21  hS)
  · refine zwl_t (fun r4 => ?_)
    refine zwl_i ?_ ?_
    · refine zwl_t (fun r7 => ?_)
      refine zwl_sIf h0 hS (fun S9 e1 => ?_)
      refine zwl_sIf h1 e1 (fun S10 e2 => ?_)
      refine zwl_g ?_
      refine zwl_sIa h2 e2 (fun S12 e3 => ?_)
      exact zwl_r e3
    · exact (wI_X4_fetchOne_b21  hS)
set_option maxHeartbeats 40000 in
set_option maxRecDepth 100000 in
theorem wI_X4_sellOne {T : zT} {k0 : Nat} {x1 : Int32} {S S0 : zS} {a b : Nat} (h0 : ¬ (a = k0 ∧ b = 5)) (h1 : ¬ (a = k0 ∧ b = 3)) (hS : S.1 a b = S0.1 a b) : zwl (fX4_sellOne T k0 x1 S) (fun q0 => q0.2.1 a b = S0.1 a b) := by
  unfold fX4_sellOne
  refine zwl_t (fun r1 => ?_)
  refine zwl_i ?_ ?_
  · exact zwl_r hS
  · refine zwl_sIf h0 hS (fun S4 e1 => ?_)
    refine zwl_g ?_
    refine zwl_sIf h1 e1 (fun S6 e2 => ?_)
    exact zwl_r e2
set_option maxHeartbeats 40000 in
set_option maxRecDepth 100000 in
theorem wI_X4_halveOne_b19 {T : zT} {S S0 : zS} {a b : Nat}  (hS : S.1 a b = S0.1 a b) : zwl (fX4_halveOne_b19 T S) (fun q0 => q0.2.1 a b = S0.1 a b) := by
  unfold fX4_halveOne_b19
  exact zwl_r hS
set_option maxHeartbeats 40000 in
set_option maxRecDepth 100000 in
theorem wI_X4_halveOne {T : zT} {k0 : Nat} {x1 : Int32} {x2 : Int32} {S S0 : zS} {a b : Nat} (h0 : ¬ (a = k0 ∧ b = 3)) (h1 : ¬ (a = k0 ∧ b = 15)) (h2 : ¬ a = zr T k0 12) (h3 : ¬ a = zr T k0 13) (h4 : ¬ a = zr T k0 14) (hS : S.1 a b = S0.1 a b) : zwl (fX4_halveOne T k0 x1 x2 S) (fun q0 => q0.2.1 a b = S0.1 a b) := by
  unfold fX4_halveOne
  refine zwl_t (fun r1 => ?_)
  refine zwl_i ?_ ?_
  · exact (wI_X4_halveOne_b19  hS)
  · refine zwl_i ?_ ?_
    · refine zwl_t (fun r5 => ?_)
      refine zwl_v (fun u7 => ?_)
      refine zwl_i ?_ ?_
      · refine zwl_sIf h0 hS (fun S9 e1 => ?_)
        refine zwl_sIf h1 e1 (fun S10 e2 => ?_)
        refine zwl_g ?_
        refine zwl_sIa h2 e2 (fun S12 e3 => ?_)
        refine zwl_g ?_
        refine zwl_g ?_
        refine zwl_sIa h3 e3 (fun S15 e4 => ?_)
        refine zwl_g ?_
        refine zwl_sIa h4 e4 (fun S17 e5 => ?_)
        exact zwl_r e5
      · exact zwl_r hS
    · exact (wI_X4_halveOne_b19  hS)
set_option maxHeartbeats 40000 in
set_option maxRecDepth 100000 in
theorem wI_X5_pass_b63 {T : zT} {k0 : Nat} {k1 : Nat} {n1 : Nat} {x2 : Int32} {k4 : Nat} {n4 : Nat} {x5 : Int32} {x6 : Int32} {S S0 : zS} {a b : Nat}  (hS : S.1 a b = S0.1 a b) : zwl (fX5_pass_b63 T k0 k1 n1 x2 k4 n4 x5 x6 S) (Sum.elim (fun q1 => q1.2.1 a b = S0.1 a b) (fun q1 => q1.1 a b = S0.1 a b)) := by
  unfold fX5_pass_b63
  refine zwl_v (fun u6 => ?_)
  exact zwl_r hS
set_option maxHeartbeats 40000 in
set_option maxRecDepth 100000 in
theorem wI_X5_pass_l27 {T : zT} {k0 : Nat} {k1 : Nat} {n1 : Nat} {x2 : Int32} {k4 : Nat} {n4 : Nat} {x5 : Int32} {x6 : Int32} {S S0 : zS} {a b : Nat} (h0 : ¬ a = k1) (hS : S.1 a b = S0.1 a b) : zwl (fX5_pass_l27 T k0 k1 n1 x2 k4 n4 x5 x6 S) (Sum.elim (fun q1 => q1.2.1 a b = S0.1 a b) (fun q1 => q1.1 a b = S0.1 a b)) := by
  unfold fX5_pass_l27
  refine zwl_i ?_ ?_
  · exact zwl_r hS
  · refine zwl_i ?_ ?_
    · exact (wI_X5_pass_b63  hS)
    · refine zwl_t (fun r7 => ?_)
      refine zwl_b (wI_X5_fetchAnywhere h0 hS) (fun r1 S11 e2 => ?_)
      exact (wI_X5_pass_b63  e2)
set_option maxHeartbeats 40000 in
set_option maxRecDepth 100000 in
theorem wI_X5_pass_b138 {T : zT} {k0 : Nat} {k1 : Nat} {n1 : Nat} {k4 : Nat} {n4 : Nat} {x6 : Int32} {x7 : Int32} {S S0 : zS} {a b : Nat}  (hS : S.1 a b = S0.1 a b) : zwl (fX5_pass_b138 T k0 k1 n1 k4 n4 x6 x7 S) (Sum.elim (fun q1 => q1.2.1 a b = S0.1 a b) (fun q1 => q1.1 a b = S0.1 a b)) := by
  unfold fX5_pass_b138
  refine zwl_v (fun u19 => ?_)
  exact zwl_r hS
set_option maxHeartbeats 40000 in
set_option maxRecDepth 100000 in
theorem wI_X5_pass_l79 {T : zT} {k0 : Nat} {k1 : Nat} {n1 : Nat} {k4 : Nat} {n4 : Nat} {x6 : Int32} {x7 : Int32} {S S0 : zS} {a b : Nat} (h0 : ¬ a = k1) (hS : S.1 a b = S0.1 a b) : zwl (fX5_pass_l79 T k0 k1 n1 k4 n4 x6 x7 S) (Sum.elim (fun q1 => q1.2.1 a b = S0.1 a b) (fun q1 => q1.1 a b = S0.1 a b)) := by
  unfold fX5_pass_l79
  refine zwl_i ?_ ?_
  · exact zwl_r hS
  · refine zwl_i ?_ ?_
    · exact zwl_r hS
    · refine zwl_i ?_ ?_
      · exact zwl_r hS
      · refine zwl_g ?_
        refine zwl_i ?_ ?_
        · exact (wI_X5_pass_b138  hS)
        · refine zwl_g ?_
          refine zwl_g ?_
          refine zwl_v (fun u22 => ?_)
          refine zwl_g ?_
          refine zwl_sIa h0 hS (fun S24 e1 => ?_)
          exact (wI_X5_pass_b138  e1)
set_option maxHeartbeats 40000 in
set_option maxRecDepth 100000 in
theorem wI_X5_pass_b144 {T : zT} {S S0 : zS} {a b : Nat}  (hS : S.1 a b = S0.1 a b) : zwl (fX5_pass_b144 T S) (fun q0 => q0.2.1 a b = S0.1 a b) := by
  unfold fX5_pass_b144
  exact zwl_r hS
set_option maxHeartbeats 40000 in
set_option maxRecDepth 100000 in
theorem wI_X5_pass {T : zT} {k0 : Nat} {k1 : Nat} {n1 : Nat} {x2 : Int32} {x3 : Int32} {k4 : Nat} {n4 : Nat} {S S0 : zS} {a b : Nat} (h0 : ¬ a = k1) (hS : S.1 a b = S0.1 a b) : zwl (fX5_pass T k0 k1 n1 x2 x3 k4 n4 S) (fun q0 => q0.2.1 a b = S0.1 a b) := by
  unfold fX5_pass
  refine zwl_t (fun r1 => ?_)
  refine zwl_v (fun u3 => ?_)
  refine zwl_b1 (zwl_lp (I := (fun q0 => q0.2.1 a b = S0.1 a b)) (Q := (fun q0 => q0.1 a b = S0.1 a b)) (fun a e3 => (wI_X5_pass_l27 h0 e3)) hS) (fun e12 e1 => ?_)
  refine zwl_v (fun u13 => ?_)
  refine zwl_b1 (zwl_lp (I := (fun q0 => q0.2.1 a b = S0.1 a b)) (Q := (fun q0 => q0.1 a b = S0.1 a b)) (fun a e6 => (wI_X5_pass_l79 h0 e6)) e1) (fun e25 e4 => ?_)
  exact (wI_X5_pass_b144  e4)
set_option maxHeartbeats 40000 in
set_option maxRecDepth 100000 in
theorem wI_X6_startClause_b34 {T : zT} {k0 : Nat} {S S0 : zS} {a b : Nat} (h0 : ¬ (a = k0 ∧ b = 5)) (hS : S.1 a b = S0.1 a b) : zwl (fX6_startClause_b34 T k0 S) (fun q0 => q0.2.1 a b = S0.1 a b) := by
  unfold fX6_startClause_b34
  refine zwl_b (wI_X6_fail h0 hS) (fun r1 S8 e2 => ?_)
  exact zwl_r e2
set_option maxHeartbeats 40000 in
set_option maxRecDepth 100000 in
theorem wI_X6_startClause_b60 {T : zT} {k0 : Nat} {x2 : Int32} {S S0 : zS} {a b : Nat} (h0 : ¬ (a = k0 ∧ b = 1)) (h1 : ¬ (a = k0 ∧ b = 2)) (h2 : ¬ (a = k0 ∧ b = 3)) (h3 : ¬ (a = k0 ∧ b = 4)) (hS : S.1 a b = S0.1 a b) : zwl (fX6_startClause_b60 T k0 x2 S) (fun q0 => q0.2.1 a b = S0.1 a b) := by
  unfold fX6_startClause_b60
  refine zwl_b (wI_X6_next h0 h1 h2 h3 hS) (fun r1 S15 e2 => ?_)
  exact zwl_r e2
set_option maxHeartbeats 40000 in
set_option maxRecDepth 100000 in
theorem wI_X6_startClause {T : zT} {k0 : Nat} {x1 : Int32} {S S0 : zS} {a b : Nat} (h0 : ¬ (a = k0 ∧ b = 5)) (h1 : ¬ (a = k0 ∧ b = 1)) (h2 : ¬ (a = k0 ∧ b = 2)) (h3 : ¬ (a = k0 ∧ b = 3)) (h4 : ¬ (a = k0 ∧ b = 4)) (h5 : ¬ (a = k0 ∧ b = 7)) (hS : S.1 a b = S0.1 a b) : zwl (fX6_startClause T k0 x1 S) (fun q0 => q0.2.1 a b = S0.1 a b) := by
  unfold fX6_startClause
  refine zwl_v (fun u1 => ?_)
  refine zwl_t (fun r2 => ?_)
  refine zwl_i ?_ ?_
  · refine zwl_b (wI_X6_fail h0 hS) (fun r1 S19 e2 => ?_)
    exact zwl_r e2
  · refine zwl_i ?_ ?_
    · refine zwl_i ?_ ?_
      · refine zwl_t (fun r10 => ?_)
        refine zwl_i ?_ ?_
        · exact (wI_X6_startClause_b60 h1 h2 h3 h4 hS)
        · refine zwl_sIf h5 hS (fun S16 e3 => ?_)
          exact (wI_X6_startClause_b60 h1 h2 h3 h4 e3)
      · exact (wI_X6_startClause_b34 h0 hS)
    · exact (wI_X6_startClause_b34 h0 hS)
set_option maxHeartbeats 40000 in
set_option maxRecDepth 100000 in
theorem wI_X6_isAtEnd_b16 {T : zT} {S S0 : zS} {a b : Nat}  (hS : S.1 a b = S0.1 a b) : zwl (fX6_isAtEnd_b16 T S) (fun q0 => q0.2.1 a b = S0.1 a b) := by
  unfold fX6_isAtEnd_b16
  exact zwl_r hS
set_option maxHeartbeats 40000 in
set_option maxRecDepth 100000 in
theorem wI_X6_isAtEnd {T : zT} {k0 : Nat} {S S0 : zS} {a b : Nat} (h0 : ¬ (a = k0 ∧ b = 1)) (h1 : ¬ (a = k0 ∧ b = 2)) (h2 : ¬ (a = k0 ∧ b = 3)) (h3 : ¬ (a = k0 ∧ b = 4)) (h4 : ¬ (a = k0 ∧ b = 5)) (hS : S.1 a b = S0.1 a b) : zwl (fX6_isAtEnd T k0 S) (fun q0 => q0.2.1 a b = S0.1 a b) := by
  unfold fX6_isAtEnd
  refine zwl_i ?_ ?_
  · refine zwl_i ?_ ?_
    · exact (wI_X6_isAtEnd_b16  hS)
    · refine zwl_b (wI_X6_expect h0 h1 h2 h3 h4 hS) (fun r1 S5 e2 => ?_)
      exact zwl_r e2
  · exact (wI_X6_isAtEnd_b16  hS)
set_option maxHeartbeats 40000 in
set_option maxRecDepth 100000 in
theorem wI_X6_readExtra_b10 {T : zT} {S S0 : zS} {a b : Nat}  (hS : S.1 a b = S0.1 a b) : zwl (fX6_readExtra_b10 T S) (fun q0 => q0.2.1 a b = S0.1 a b) := by
  unfold fX6_readExtra_b10
  exact zwl_r hS
set_option maxHeartbeats 40000 in
set_option maxRecDepth 100000 in
theorem wI_X6_readExtra_b93 {T : zT} {S S0 : zS} {a b : Nat}  (hS : S.1 a b = S0.1 a b) : zwl (fX6_readExtra_b93 T S) (fun q0 => q0.2.1 a b = S0.1 a b) := by
  unfold fX6_readExtra_b93
  exact zwl_r hS
set_option maxHeartbeats 40000 in
set_option maxRecDepth 100000 in
theorem wI_X6_readExtra {T : zT} {k0 : Nat} {k1 : Nat} {x2 : Int32} {x3 : Int32} {S S0 : zS} {a b : Nat} (h0 : ¬ (a = k0 ∧ b = 5)) (h1 : ¬ (a = k0 ∧ b = 1)) (h2 : ¬ (a = k0 ∧ b = 2)) (h3 : ¬ (a = k0 ∧ b = 3)) (h4 : ¬ (a = k0 ∧ b = 4)) (h5 : ¬ a = zr T k1 8) (h6 : ¬ a = zr T k1 9) (h7 : ¬ a = zr T k1 10) (h8 : ¬ a = zr T k1 11) (hS : S.1 a b = S0.1 a b) : zwl (fX6_readExtra T k0 k1 x2 x3 S) (fun q0 => q0.2.1 a b = S0.1 a b) := by
  unfold fX6_readExtra
  refine zwl_i ?_ ?_
  · exact (wI_X6_readExtra_b10  hS)
  · refine zwl_i ?_ ?_
    · refine zwl_i ?_ ?_
      · refine zwl_b (wI_X6_number h0 h1 h2 h3 h4 hS) (fun r21 S23 e1 => ?_)
        refine zwl_g ?_
        refine zwl_sIa h5 e1 (fun S25 e2 => ?_)
        exact (wI_X6_readExtra_b93  e2)
      · refine zwl_i ?_ ?_
        · refine zwl_b (wI_X6_number h0 h1 h2 h3 h4 hS) (fun r16 S18 e3 => ?_)
          refine zwl_g ?_
          refine zwl_sIa h6 e3 (fun S20 e4 => ?_)
          exact (wI_X6_readExtra_b93  e4)
        · refine zwl_i ?_ ?_
          · refine zwl_b (wI_X6_number h0 h1 h2 h3 h4 hS) (fun r11 S13 e5 => ?_)
            refine zwl_g ?_
            refine zwl_sIa h7 e5 (fun S15 e6 => ?_)
            exact (wI_X6_readExtra_b93  e6)
          · refine zwl_b (wI_X6_number h0 h1 h2 h3 h4 hS) (fun r6 S8 e7 => ?_)
            refine zwl_g ?_
            refine zwl_sIa h8 e7 (fun S10 e8 => ?_)
            exact (wI_X6_readExtra_b93  e8)
    · exact (wI_X6_readExtra_b10  hS)
set_option maxHeartbeats 40000 in
set_option maxRecDepth 100000 in
theorem wI_X6_readCousin {T : zT} {k0 : Nat} {k1 : Nat} {S S0 : zS} {a b : Nat} (h0 : ¬ (a = k0 ∧ b = 5)) (h1 : ¬ (a = k0 ∧ b = 1)) (h2 : ¬ (a = k0 ∧ b = 2)) (h3 : ¬ (a = k0 ∧ b = 3)) (h4 : ¬ (a = k0 ∧ b = 4)) (h5 : ¬ (a = k1 ∧ b = 4)) (h6 : ¬ (a = k1 ∧ b = 5)) (hS : S.1 a b = S0.1 a b) : zwl (fX6_readCousin T k0 k1 S) (fun q0 => q0.2.1 a b = S0.1 a b) := by
  unfold fX6_readCousin
  refine zwl_b (wI_X6_number h0 h1 h2 h3 h4 hS) (fun r1 S3 e1 => ?_)
  refine zwl_sIf h5 e1 (fun S4 e2 => ?_)
  refine zwl_b (wI_X6_expect h1 h2 h3 h4 h0 e2) (fun r3 S7 e4 => ?_)
  refine zwl_b (wI_X6_number h0 h1 h2 h3 h4 e4) (fun r8 S10 e5 => ?_)
  refine zwl_sIf h6 e5 (fun S11 e6 => ?_)
  exact zwl_r e6
set_option maxHeartbeats 40000 in
set_option maxRecDepth 100000 in
theorem wI_X6_readSum_b50 {T : zT} {k0 : Nat} {x1 : Int32} {x2 : Int32} {x3 : Int32} {S S0 : zS} {a b : Nat} (h0 : ¬ (a = k0 ∧ b = 1)) (h1 : ¬ (a = k0 ∧ b = 2)) (h2 : ¬ (a = k0 ∧ b = 3)) (h3 : ¬ (a = k0 ∧ b = 4)) (h4 : ¬ (a = k0 ∧ b = 5)) (h5 : ¬ (a = k0 ∧ b = 6)) (h6 : ¬ (a = zr T k0 9 ∧ b = 2)) (h7 : ¬ a = zr T (zr T k0 9) 0) (h8 : ¬ (a = zr T k0 9 ∧ b = 1)) (hS : S.1 a b = S0.1 a b) : zwl (fX6_readSum_b50 T k0 x1 x2 x3 S) (Sum.elim (fun q1 => q1.2.1 a b = S0.1 a b) (fun q1 => q1.1 a b = S0.1 a b)) := by
  unfold fX6_readSum_b50
  refine zwl_v (fun u8 => ?_)
  refine zwl_b (wI_X6_next h0 h1 h2 h3 hS) (fun r1 S11 e2 => ?_)
  refine zwl_b (wI_X6_readValue h4 h5 h6 h7 h8 h0 h1 h2 h3 e2) (fun r3 S14 e4 => ?_)
  refine zwl_b (wI_X2_add h6 h7 h8 e4) (fun r5 S17 e6 => ?_)
  refine zwl_v (fun u18 => ?_)
  exact zwl_r e6
set_option maxHeartbeats 40000 in
set_option maxRecDepth 100000 in
theorem wI_X6_readSum_l25 {T : zT} {k0 : Nat} {x1 : Int32} {x2 : Int32} {x3 : Int32} {S S0 : zS} {a b : Nat} (h0 : ¬ (a = k0 ∧ b = 1)) (h1 : ¬ (a = k0 ∧ b = 2)) (h2 : ¬ (a = k0 ∧ b = 3)) (h3 : ¬ (a = k0 ∧ b = 4)) (h4 : ¬ (a = k0 ∧ b = 5)) (h5 : ¬ (a = k0 ∧ b = 6)) (h6 : ¬ (a = zr T k0 9 ∧ b = 2)) (h7 : ¬ a = zr T (zr T k0 9) 0) (h8 : ¬ (a = zr T k0 9 ∧ b = 1)) (hS : S.1 a b = S0.1 a b) : zwl (fX6_readSum_l25 T k0 x1 x2 x3 S) (Sum.elim (fun q1 => q1.2.1 a b = S0.1 a b) (fun q1 => q1.1 a b = S0.1 a b)) := by
  unfold fX6_readSum_l25
  refine zwl_i ?_ ?_
  · exact zwl_r hS
  · refine zwl_i ?_ ?_
    · exact (wI_X6_readSum_b50 h0 h1 h2 h3 h4 h5 h6 h7 h8 hS)
    · refine zwl_i ?_ ?_
      · exact (wI_X6_readSum_b50 h0 h1 h2 h3 h4 h5 h6 h7 h8 hS)
      · exact zwl_r hS
set_option maxHeartbeats 40000 in
set_option maxRecDepth 100000 in
theorem wI_X6_readSum_b114 {T : zT} {k0 : Nat} {x2 : Int32} {S S0 : zS} {a b : Nat} (h0 : ¬ (a = k0 ∧ b = 1)) (h1 : ¬ (a = k0 ∧ b = 2)) (h2 : ¬ (a = k0 ∧ b = 3)) (h3 : ¬ (a = k0 ∧ b = 4)) (hS : S.1 a b = S0.1 a b) : zwl (fX6_readSum_b114 T k0 x2 S) (Sum.elim (fun q1 => q1.2.2.1 a b = S0.1 a b) (Sum.elim (fun q2 => q2.1 a b = S0.1 a b) (fun q2 => q2.1 a b = S0.1 a b))) := by
  unfold fX6_readSum_b114
  refine zwl_v (fun u23 => ?_)
  refine zwl_b (wI_X6_next h0 h1 h2 h3 hS) (fun r1 S26 e2 => ?_)
  refine zwl_v (fun u27 => ?_)
  exact zwl_r e2
set_option maxHeartbeats 40000 in
set_option maxRecDepth 100000 in
theorem wI_X6_readSum_b95 {T : zT} {k0 : Nat} {x2 : Int32} {S S0 : zS} {a b : Nat} (h0 : ¬ (a = k0 ∧ b = 1)) (h1 : ¬ (a = k0 ∧ b = 2)) (h2 : ¬ (a = k0 ∧ b = 3)) (h3 : ¬ (a = k0 ∧ b = 4)) (hS : S.1 a b = S0.1 a b) : zwl (fX6_readSum_b95 T k0 x2 S) (Sum.elim (fun q1 => q1.2.2.1 a b = S0.1 a b) (Sum.elim (fun q2 => q2.1 a b = S0.1 a b) (fun q2 => q2.1 a b = S0.1 a b))) := by
  unfold fX6_readSum_b95
  refine zwl_i ?_ ?_
  · exact (wI_X6_readSum_b114 h0 h1 h2 h3 hS)
  · refine zwl_i ?_ ?_
    · exact (wI_X6_readSum_b114 h0 h1 h2 h3 hS)
    · exact zwl_r hS
set_option maxHeartbeats 40000 in
set_option maxRecDepth 100000 in
theorem wI_X6_readSum_b80 {T : zT} {k0 : Nat} {x1 : Int32} {x2 : Int32} {S S0 : zS} {a b : Nat} (h0 : ¬ (a = k0 ∧ b = 1)) (h1 : ¬ (a = k0 ∧ b = 2)) (h2 : ¬ (a = k0 ∧ b = 3)) (h3 : ¬ (a = k0 ∧ b = 4)) (h4 : ¬ (a = zr T k0 9 ∧ b = 2)) (h5 : ¬ a = zr T (zr T k0 9) 0) (h6 : ¬ (a = zr T k0 9 ∧ b = 1)) (hS : S.1 a b = S0.1 a b) : zwl (fX6_readSum_b80 T k0 x1 x2 S) (Sum.elim (fun q1 => q1.2.2.1 a b = S0.1 a b) (Sum.elim (fun q2 => q2.1 a b = S0.1 a b) (fun q2 => q2.1 a b = S0.1 a b))) := by
  unfold fX6_readSum_b80
  refine zwl_i ?_ ?_
  · exact (wI_X6_readSum_b95 h0 h1 h2 h3 hS)
  · refine zwl_b (wI_X2_add h4 h5 h6 hS) (fun r1 S31 e2 => ?_)
    exact (wI_X6_readSum_b95 h0 h1 h2 h3 e2)
set_option maxHeartbeats 40000 in
set_option maxRecDepth 100000 in
theorem wI_X6_readSum_l5 {T : zT} {k0 : Nat} {x1 : Int32} {x2 : Int32} {S S0 : zS} {a b : Nat} (h0 : ¬ (a = k0 ∧ b = 5)) (h1 : ¬ (a = k0 ∧ b = 6)) (h2 : ¬ (a = zr T k0 9 ∧ b = 2)) (h3 : ¬ a = zr T (zr T k0 9) 0) (h4 : ¬ (a = zr T k0 9 ∧ b = 1)) (h5 : ¬ (a = k0 ∧ b = 1)) (h6 : ¬ (a = k0 ∧ b = 2)) (h7 : ¬ (a = k0 ∧ b = 3)) (h8 : ¬ (a = k0 ∧ b = 4)) (hS : S.1 a b = S0.1 a b) : zwl (fX6_readSum_l5 T k0 x1 x2 S) (Sum.elim (fun q1 => q1.2.2.1 a b = S0.1 a b) (Sum.elim (fun q2 => q2.1 a b = S0.1 a b) (fun q2 => q2.1 a b = S0.1 a b))) := by
  unfold fX6_readSum_l5
  refine zwl_i ?_ ?_
  · exact zwl_r hS
  · refine zwl_i ?_ ?_
    · refine zwl_b (wI_X6_readValue h0 h1 h2 h3 h4 h5 h6 h7 h8 hS) (fun r1 S5 e2 => ?_)
      refine zwl_b1 (zwl_lp (I := (fun q0 => q0.2.1 a b = S0.1 a b)) (Q := (fun q0 => q0.1 a b = S0.1 a b)) (fun a e5 => (wI_X6_readSum_l25 h5 h6 h7 h8 h0 h1 h2 h3 h4 e5)) e2) (fun e20 e3 => ?_)
      exact (wI_X6_readSum_b80 h5 h6 h7 h8 h2 h3 h4 e3)
    · exact zwl_r hS
set_option maxHeartbeats 40000 in
set_option maxRecDepth 100000 in
theorem wI_X6_readSum_b129 {T : zT} {S S0 : zS} {a b : Nat}  (hS : S.1 a b = S0.1 a b) : zwl (fX6_readSum_b129 T S) (fun q0 => q0.2.1 a b = S0.1 a b) := by
  unfold fX6_readSum_b129
  exact zwl_r hS
set_option maxHeartbeats 40000 in
set_option maxRecDepth 100000 in
theorem wI_X6_readSum {T : zT} {k0 : Nat} {S S0 : zS} {a b : Nat} (h0 : ¬ (a = k0 ∧ b = 5)) (h1 : ¬ (a = k0 ∧ b = 6)) (h2 : ¬ (a = zr T k0 9 ∧ b = 2)) (h3 : ¬ a = zr T (zr T k0 9) 0) (h4 : ¬ (a = zr T k0 9 ∧ b = 1)) (h5 : ¬ (a = k0 ∧ b = 1)) (h6 : ¬ (a = k0 ∧ b = 2)) (h7 : ¬ (a = k0 ∧ b = 3)) (h8 : ¬ (a = k0 ∧ b = 4)) (hS : S.1 a b = S0.1 a b) : zwl (fX6_readSum T k0 S) (fun q0 => q0.2.1 a b = S0.1 a b) := by
  unfold fX6_readSum
  refine zwl_b1 (zwl_lp (I := (fun q0 => q0.2.2.1 a b = S0.1 a b)) (Q := (Sum.elim (fun q1 => q1.1 a b = S0.1 a b) (fun q1 => q1.1 a b = S0.1 a b))) (fun a e3 => (wI_X6_readSum_l5 h0 h1 h2 h3 h4 h5 h6 h7 h8 e3)) hS) (fun e34 e1 => ?_)
  refine zwl_m e1 (fun e34_0 e4 => ?_) (fun e34_1 e5 => ?_)
  · exact (wI_X6_readSum_b129  e4)
  · exact zwl_r e5
set_option maxHeartbeats 40000 in
set_option maxRecDepth 100000 in
theorem wI_X8_valueIn_l2 {T : zT} {k0 : Nat} {k1 : Nat} {x2 : Int32} {S S0 : zS} {a b : Nat}  (hS : S.1 a b = S0.1 a b) : zwl (fX8_valueIn_l2 T k0 k1 x2 S) (Sum.elim (fun q1 => q1.2.1 a b = S0.1 a b) (Sum.elim (fun q2 => q2.1 a b = S0.1 a b) (fun q2 => q2.2.1 a b = S0.1 a b))) := by
  unfold fX8_valueIn_l2
  refine zwl_i ?_ ?_
  · exact zwl_r hS
  · refine zwl_i ?_ ?_
    · exact zwl_r hS
    · refine zwl_g ?_
      refine zwl_i ?_ ?_
      · exact zwl_r hS
      · refine zwl_g ?_
        refine zwl_b (wI_X9_valueAt  hS) (fun r6 S8 e1 => ?_)
        refine zwl_i ?_ ?_
        · refine zwl_v (fun u10 => ?_)
          exact zwl_r e1
        · exact zwl_r e1
set_option maxHeartbeats 40000 in
set_option maxRecDepth 100000 in
theorem wI_X8_valueIn_b66 {T : zT} {S S0 : zS} {a b : Nat}  (hS : S.1 a b = S0.1 a b) : zwl (fX8_valueIn_b66 T S) (fun q0 => q0.2.1 a b = S0.1 a b) := by
  unfold fX8_valueIn_b66
  exact zwl_r hS
set_option maxHeartbeats 40000 in
set_option maxRecDepth 100000 in
theorem wI_X8_valueIn_b45 {T : zT} {k0 : Nat} {k1 : Nat} {x2 : Int32} {S S0 : zS} {a b : Nat}  (hS : S.1 a b = S0.1 a b) : zwl (fX8_valueIn_b45 T k0 k1 x2 S) (fun q0 => q0.2.1 a b = S0.1 a b) := by
  unfold fX8_valueIn_b45
  refine zwl_g ?_
  refine zwl_b (wI_X9_valueAt  hS) (fun r13 S15 e1 => ?_)
  exact zwl_r e1
set_option maxHeartbeats 40000 in
set_option maxRecDepth 100000 in
theorem wI_X8_valueIn {T : zT} {k0 : Nat} {k1 : Nat} {S S0 : zS} {a b : Nat}  (hS : S.1 a b = S0.1 a b) : zwl (fX8_valueIn T k0 k1 S) (fun q0 => q0.2.1 a b = S0.1 a b) := by
  unfold fX8_valueIn
  refine zwl_b1 (zwl_lp (I := (fun q0 => q0.2.1 a b = S0.1 a b)) (Q := (Sum.elim (fun q1 => q1.1 a b = S0.1 a b) (fun q1 => q1.2.1 a b = S0.1 a b))) (fun a e3 => (wI_X8_valueIn_l2  e3)) hS) (fun e11 e1 => ?_)
  refine zwl_m e1 (fun e11_0 e4 => ?_) (fun e11_1 e5 => ?_)
  · exact (wI_X8_valueIn_b66  e4)
  · exact (wI_X8_valueIn_b45  e5)
set_option maxHeartbeats 40000 in
set_option maxRecDepth 100000 in
theorem wI_X12_digits_b58 {T : zT} {k0 : Nat} {x1 : Int32} {x2 : Int32} {s0 : Int32} {S S0 : zS} {a b : Nat} (h0 : ¬ (a = k0 ∧ b = 2)) (hS : S.1 a b = S0.1 a b) : zwl (fX12_digits_b58 T k0 x1 x2 s0 S) (Sum.elim (fun q1 => q1.2.1 a b = S0.1 a b) (fun q1 => q1.2.1 a b = S0.1 a b)) := by
  unfold fX12_digits_b58
  refine zwl_sIf h0 hS (fun S9 e1 => ?_)
  exact zwl_r e1
set_option maxHeartbeats 40000 in
set_option maxRecDepth 100000 in
theorem wI_X12_digits_l25 {T : zT} {k0 : Nat} {x1 : Int32} {x2 : Int32} {x3 : Int32} {S S0 : zS} {a b : Nat} (h0 : ¬ (a = k0 ∧ b = 2)) (hS : S.1 a b = S0.1 a b) : zwl (fX12_digits_l25 T k0 x1 x2 x3 S) (Sum.elim (fun q1 => q1.2.1 a b = S0.1 a b) (fun q1 => q1.2.1 a b = S0.1 a b)) := by
  unfold fX12_digits_l25
  refine zwl_t (fun r5 => ?_)
  refine zwl_i ?_ ?_
  · exact zwl_r hS
  · refine zwl_i ?_ ?_
    · exact (wI_X12_digits_b58 h0 hS)
    · refine zwl_t (fun r10 => ?_)
      exact (wI_X12_digits_b58 h0 hS)
set_option maxHeartbeats 40000 in
set_option maxRecDepth 100000 in
theorem wI_X12_digits_b93 {T : zT} {x3 : Int32} {S S0 : zS} {a b : Nat}  (hS : S.1 a b = S0.1 a b) : zwl (fX12_digits_b93 T x3 S) (fun q0 => q0.2.1 a b = S0.1 a b) := by
  unfold fX12_digits_b93
  exact zwl_r hS
set_option maxHeartbeats 40000 in
set_option maxRecDepth 100000 in
theorem wI_X12_digits_b87 {T : zT} {k0 : Nat} {x2 : Int32} {x3 : Int32} {S S0 : zS} {a b : Nat} (h0 : ¬ (a = k0 ∧ b = 3)) (hS : S.1 a b = S0.1 a b) : zwl (fX12_digits_b87 T k0 x2 x3 S) (fun q0 => q0.2.1 a b = S0.1 a b) := by
  unfold fX12_digits_b87
  refine zwl_b (wI_X12_fails h0 hS) (fun r1 S16 e2 => ?_)
  exact (wI_X12_digits_b93  e2)
set_option maxHeartbeats 40000 in
set_option maxRecDepth 100000 in
theorem wI_X12_digits {T : zT} {k0 : Nat} {x1 : Int32} {S S0 : zS} {a b : Nat} (h0 : ¬ (a = k0 ∧ b = 3)) (h1 : ¬ (a = k0 ∧ b = 2)) (hS : S.1 a b = S0.1 a b) : zwl (fX12_digits T k0 x1 S) (fun q0 => q0.2.1 a b = S0.1 a b) := by
  unfold fX12_digits
  refine zwl_t (fun r1 => ?_)
  refine zwl_i ?_ ?_
  · refine zwl_b (wI_X12_fails h0 hS) (fun r1 S22 e2 => ?_)
    exact zwl_r e2
  · refine zwl_v (fun u4 => ?_)
    refine zwl_b1 (zwl_lp (I := (fun q0 => q0.2.1 a b = S0.1 a b)) (Q := (fun q0 => q0.2.1 a b = S0.1 a b)) (fun a e5 => (wI_X12_digits_l25 h1 e5)) hS) (fun e12 e3 => ?_)
    refine zwl_i ?_ ?_
    · exact (wI_X12_digits_b87 h0 e3)
    · refine zwl_i ?_ ?_
      · exact (wI_X12_digits_b93  e3)
      · exact (wI_X12_digits_b87 h0 e3)
set_option maxHeartbeats 40000 in
set_option maxRecDepth 100000 in
theorem wI_X12_letter_b86 {T : zT} {s0 : Int32} {S S0 : zS} {a b : Nat}  (hS : S.1 a b = S0.1 a b) : zwl (fX12_letter_b86 T s0 S) (fun q0 => q0.2.1 a b = S0.1 a b) := by
  unfold fX12_letter_b86
  exact zwl_r hS
set_option maxHeartbeats 40000 in
set_option maxRecDepth 100000 in
theorem wI_X12_letter_b85 {T : zT} {S S0 : zS} {a b : Nat}  (hS : S.1 a b = S0.1 a b) : zwl (fX12_letter_b85 T S) (fun q0 => q0.2.1 a b = S0.1 a b) := by
  unfold fX12_letter_b85
  exact (wI_X12_letter_b86  hS)
set_option maxHeartbeats 40000 in
set_option maxRecDepth 100000 in
theorem wI_X12_letter_b59 {T : zT} {x1 : Int32} {s0 : Int32} {S S0 : zS} {a b : Nat}  (hS : S.1 a b = S0.1 a b) : zwl (fX12_letter_b59 T x1 s0 S) (fun q0 => q0.2.1 a b = S0.1 a b) := by
  unfold fX12_letter_b59
  refine zwl_t (fun r7 => ?_)
  refine zwl_i ?_ ?_
  · exact (wI_X12_letter_b85  hS)
  · refine zwl_i ?_ ?_
    · exact (wI_X12_letter_b86  hS)
    · exact (wI_X12_letter_b85  hS)
set_option maxHeartbeats 40000 in
set_option maxRecDepth 100000 in
theorem wI_X12_letter_b58 {T : zT} {x1 : Int32} {S S0 : zS} {a b : Nat}  (hS : S.1 a b = S0.1 a b) : zwl (fX12_letter_b58 T x1 S) (fun q0 => q0.2.1 a b = S0.1 a b) := by
  unfold fX12_letter_b58
  exact (wI_X12_letter_b59  hS)
set_option maxHeartbeats 40000 in
set_option maxRecDepth 100000 in
theorem wI_X12_letter {T : zT} {k0 : Nat} {S S0 : zS} {a b : Nat} (h0 : ¬ (a = k0 ∧ b = 2)) (hS : S.1 a b = S0.1 a b) : zwl (fX12_letter T k0 S) (fun q0 => q0.2.1 a b = S0.1 a b) := by
  unfold fX12_letter
  refine zwl_b (wI_X12_blanks h0 hS) (fun r1 S3 e2 => ?_)
  refine zwl_t (fun r4 => ?_)
  refine zwl_i ?_ ?_
  · exact (wI_X12_letter_b58  e2)
  · refine zwl_g ?_
    refine zwl_i ?_ ?_
    · exact (wI_X12_letter_b58  e2)
    · refine zwl_g ?_
      refine zwl_i ?_ ?_
      · exact (wI_X12_letter_b58  e2)
      · exact (wI_X12_letter_b59  e2)
set_option maxHeartbeats 40000 in
set_option maxRecDepth 100000 in
theorem wI_X12_answer_b147 {T : zT} {k0 : Nat} {x1 : Int32} {x3 : Int32} {x4 : Int32} {x5 : Int32} {S S0 : zS} {a b : Nat}  (hS : S.1 a b = S0.1 a b) : zwl (fX12_answer_b147 T k0 x1 x3 x4 x5 S) (Sum.elim (fun q1 => q1.2.2.1 a b = S0.1 a b) (fun q1 => q1.1 a b = S0.1 a b)) := by
  unfold fX12_answer_b147
  refine zwl_v (fun u12 => ?_)
  exact zwl_r hS
set_option maxHeartbeats 40000 in
set_option maxRecDepth 100000 in
theorem wI_X12_answer_b77 {T : zT} {k0 : Nat} {x1 : Int32} {x3 : Int32} {x4 : Int32} {x5 : Int32} {s0 : Int64} {s1 : Int32} {s2 : Nat} {m2 : Nat} {S S0 : zS} {a b : Nat}  (hS : S.1 a b = S0.1 a b) : zwl (fX12_answer_b77 T k0 x1 x3 x4 x5 s0 s1 s2 m2 S) (Sum.elim (fun q1 => q1.2.2.1 a b = S0.1 a b) (fun q1 => q1.1 a b = S0.1 a b)) := by
  unfold fX12_answer_b77
  refine zwl_g ?_
  refine zwl_sIn hS (fun S10 e1 => ?_)
  refine zwl_v (fun u11 => ?_)
  exact (wI_X12_answer_b147  e1)
set_option maxHeartbeats 40000 in
set_option maxRecDepth 100000 in
theorem wI_X12_answer_b53 {T : zT} {k0 : Nat} {x1 : Int32} {x3 : Int32} {x4 : Int32} {x5 : Int32} {x6 : Int32} {x7 : Int32} {S S0 : zS} {a b : Nat}  (hS : S.1 a b = S0.1 a b) : zwl (fX12_answer_b53 T k0 x1 x3 x4 x5 x6 x7 S) (Sum.elim (fun q1 => q1.2.2.1 a b = S0.1 a b) (fun q1 => q1.1 a b = S0.1 a b)) := by
  unfold fX12_answer_b53
  refine zwl_i ?_ ?_
  · exact (wI_X12_answer_b77  hS)
  · refine zwl_g ?_
    exact (wI_X12_answer_b77  hS)
set_option maxHeartbeats 40000 in
set_option maxRecDepth 100000 in
theorem wI_X12_answer_l6 {T : zT} {k0 : Nat} {x1 : Int32} {x3 : Int32} {x4 : Int32} {x5 : Int32} {S S0 : zS} {a b : Nat}  (hS : S.1 a b = S0.1 a b) : zwl (fX12_answer_l6 T k0 x1 x3 x4 x5 S) (Sum.elim (fun q1 => q1.2.2.1 a b = S0.1 a b) (fun q1 => q1.1 a b = S0.1 a b)) := by
  unfold fX12_answer_l6
  refine zwl_i ?_ ?_
  · exact zwl_r hS
  · refine zwl_g ?_
    refine zwl_v (fun u3 => ?_)
    refine zwl_g ?_
    refine zwl_v (fun u5 => ?_)
    refine zwl_i ?_ ?_
    · exact (wI_X12_answer_b53  hS)
    · refine zwl_i ?_ ?_
      · exact (wI_X12_answer_b53  hS)
      · refine zwl_i ?_ ?_
        · refine zwl_g ?_
          refine zwl_g ?_
          refine zwl_sIn hS (fun S24 e1 => ?_)
          exact (wI_X12_answer_b147  e1)
        · refine zwl_v (fun u15 => ?_)
          refine zwl_g ?_
          refine zwl_g ?_
          refine zwl_t (fun r18 => ?_)
          refine zwl_g ?_
          refine zwl_sIn hS (fun S21 e2 => ?_)
          exact (wI_X12_answer_b147  e2)
set_option maxHeartbeats 40000 in
set_option maxRecDepth 100000 in
theorem wI_X12_answer {T : zT} {k0 : Nat} {x1 : Int32} {x2 : Int32} {x3 : Int32} {S S0 : zS} {a b : Nat}  (hS : S.1 a b = S0.1 a b) : zwl (fX12_answer T k0 x1 x2 x3 S) (fun q0 => q0.2.1 a b = S0.1 a b) := by
  unfold fX12_answer
  refine zwl_b1 (zwl_lp (I := (fun q0 => q0.2.2.1 a b = S0.1 a b)) (Q := (fun q0 => q0.1 a b = S0.1 a b)) (fun a e3 => (wI_X12_answer_l6  e3)) hS) (fun e25 e1 => ?_)
  refine zwl_g ?_
  exact zwl_r e1
set_option maxHeartbeats 40000 in
set_option maxRecDepth 100000 in
theorem wI_X12_act_b70 {T : zT} {S S0 : zS} {a b : Nat}  (hS : S.1 a b = S0.1 a b) : zwl (fX12_act_b70 T S) (fun q0 => q0.2.1 a b = S0.1 a b) := by
  unfold fX12_act_b70
  exact zwl_r hS
set_option maxHeartbeats 40000 in
set_option maxRecDepth 100000 in
theorem wI_X12_act_b72 {T : zT} {k0 : Nat} {x1 : Int32} {x2 : Int32} {x3 : Int32} {S S0 : zS} {a b : Nat} (h0 : ¬ a = zr T k0 37) (h1 : ¬ a = zr T k0 38) (h2 : ¬ a = zr T k0 39) (h3 : ¬ (a = k0 ∧ b = 36)) (hS : S.1 a b = S0.1 a b) : zwl (fX12_act_b72 T k0 x1 x2 x3 S) (fun q0 => q0.2.1 a b = S0.1 a b) := by
  unfold fX12_act_b72
  refine zwl_g ?_
  refine zwl_sIa h0 hS (fun S14 e1 => ?_)
  refine zwl_g ?_
  refine zwl_sIa h1 e1 (fun S16 e2 => ?_)
  refine zwl_g ?_
  refine zwl_sIa h2 e2 (fun S18 e3 => ?_)
  refine zwl_sIf h3 e3 (fun S19 e4 => ?_)
  exact zwl_r e4
set_option maxHeartbeats 40000 in
set_option maxRecDepth 100000 in
theorem wI_X12_act_b38 {T : zT} {k0 : Nat} {x1 : Int32} {x2 : Int32} {x3 : Int32} {S S0 : zS} {a b : Nat} (h0 : ¬ a = zr T k0 37) (h1 : ¬ a = zr T k0 38) (h2 : ¬ a = zr T k0 39) (h3 : ¬ (a = k0 ∧ b = 36)) (hS : S.1 a b = S0.1 a b) : zwl (fX12_act_b38 T k0 x1 x2 x3 S) (fun q0 => q0.2.1 a b = S0.1 a b) := by
  unfold fX12_act_b38
  refine zwl_t (fun r6 => ?_)
  refine zwl_i ?_ ?_
  · exact (wI_X12_act_b70  hS)
  · refine zwl_i ?_ ?_
    · refine zwl_i ?_ ?_
      · exact (wI_X12_act_b72 h0 h1 h2 h3 hS)
      · exact (wI_X12_act_b70  hS)
    · refine zwl_t (fun r10 => ?_)
      refine zwl_i ?_ ?_
      · exact (wI_X12_act_b70  hS)
      · exact (wI_X12_act_b72 h0 h1 h2 h3 hS)
set_option maxHeartbeats 40000 in
set_option maxRecDepth 100000 in
theorem wI_X12_act {T : zT} {k0 : Nat} {x1 : Int32} {x2 : Int32} {x3 : Int32} {S S0 : zS} {a b : Nat} (h0 : ¬ a = zr T k0 37) (h1 : ¬ a = zr T k0 38) (h2 : ¬ a = zr T k0 39) (h3 : ¬ (a = k0 ∧ b = 36)) (hS : S.1 a b = S0.1 a b) : zwl (fX12_act T k0 x1 x2 x3 S) (fun q0 => q0.2.1 a b = S0.1 a b) := by
  unfold fX12_act
  refine zwl_i ?_ ?_
  · exact (wI_X12_act_b70  hS)
  · refine zwl_t (fun r2 => ?_)
    refine zwl_i ?_ ?_
    · exact (wI_X12_act_b70  hS)
    · refine zwl_i ?_ ?_
      · exact (wI_X12_act_b38 h0 h1 h2 h3 hS)
      · refine zwl_g ?_
        refine zwl_i ?_ ?_
        · exact (wI_X12_act_b70  hS)
        · exact (wI_X12_act_b38 h0 h1 h2 h3 hS)
set_option maxHeartbeats 40000 in
set_option maxRecDepth 100000 in
theorem wI_X12_image {T : zT} {k0 : Nat} {x1 : Int32} {S S0 : zS} {a b : Nat} (h0 : ¬ a = zr T k0 64) (h1 : ¬ (a = k0 ∧ b = 66)) (h2 : ¬ (a = k0 ∧ b = 65)) (h3 : ¬ a = zr T k0 67) (h4 : ¬ a = zr T k0 63) (h5 : ¬ (a = k0 ∧ b = 36)) (h6 : ¬ a = zr T k0 12) (h7 : ¬ a = zr T k0 13) (h8 : ¬ a = zr T k0 14) (h9 : ¬ a = zr T k0 15) (h10 : ¬ a = zr T k0 16) (h11 : ¬ a = zr T k0 17) (h12 : ¬ a = zr T k0 19) (h13 : ¬ a = zr T k0 20) (h14 : ¬ a = zr T k0 22) (h15 : ¬ a = zr T k0 23) (h16 : ¬ a = zr T k0 24) (h17 : ¬ a = zr T k0 25) (h18 : ¬ a = zr T k0 26) (h19 : ¬ a = zr T k0 27) (h20 : ¬ a = zr T k0 28) (h21 : ¬ a = zr T k0 29) (h22 : ¬ a = zr T k0 30) (h23 : ¬ a = zr T k0 31) (h24 : ¬ a = zr T k0 32) (h25 : ¬ a = zr T k0 33) (h26 : ¬ a = zr T k0 37) (h27 : ¬ a = zr T k0 38) (h28 : ¬ a = zr T k0 39) (hS : S.1 a b = S0.1 a b) : zwl (fX12_image T k0 x1 S) (fun q0 => q0.2.1 a b = S0.1 a b) := by
  unfold fX12_image
  refine zwl_t (fun r1 => ?_)
  refine zwl_i ?_ ?_
  · exact zwl_r hS
  · refine zwl_g ?_
    refine zwl_sIa h0 hS (fun S5 e1 => ?_)
    refine zwl_sIf h1 e1 (fun S6 e2 => ?_)
    refine zwl_b (wI_X12_carries h2 h3 h4 h5 h6 h7 h8 h9 h10 h11 h12 h13 h14 h15 h16 h17 h18 h19 h20 h21 h22 h23 h24 h25 h26 h27 h28 e2) (fun r3 S9 e4 => ?_)
    exact zwl_r e4
set_option maxHeartbeats 40000 in
set_option maxRecDepth 100000 in
theorem wI_X12_back_b21 {T : zT} {S S0 : zS} {a b : Nat}  (hS : S.1 a b = S0.1 a b) : zwl (fX12_back_b21 T S) (fun q0 => q0.2.1 a b = S0.1 a b) := by
  unfold fX12_back_b21
  exact zwl_r hS
set_option maxHeartbeats 40000 in
set_option maxRecDepth 100000 in
theorem wI_X12_back {T : zT} {k0 : Nat} {x1 : Int32} {S S0 : zS} {a b : Nat} (h0 : ¬ (a = k0 ∧ b = 66)) (h1 : ¬ (a = k0 ∧ b = 65)) (h2 : ¬ a = zr T k0 67) (h3 : ¬ a = zr T k0 63) (h4 : ¬ (a = k0 ∧ b = 36)) (h5 : ¬ a = zr T k0 12) (h6 : ¬ a = zr T k0 13) (h7 : ¬ a = zr T k0 14) (h8 : ¬ a = zr T k0 15) (h9 : ¬ a = zr T k0 16) (h10 : ¬ a = zr T k0 17) (h11 : ¬ a = zr T k0 19) (h12 : ¬ a = zr T k0 20) (h13 : ¬ a = zr T k0 22) (h14 : ¬ a = zr T k0 23) (h15 : ¬ a = zr T k0 24) (h16 : ¬ a = zr T k0 25) (h17 : ¬ a = zr T k0 26) (h18 : ¬ a = zr T k0 27) (h19 : ¬ a = zr T k0 28) (h20 : ¬ a = zr T k0 29) (h21 : ¬ a = zr T k0 30) (h22 : ¬ a = zr T k0 31) (h23 : ¬ a = zr T k0 32) (h24 : ¬ a = zr T k0 33) (h25 : ¬ a = zr T k0 37) (h26 : ¬ a = zr T k0 38) (h27 : ¬ a = zr T k0 39) (hS : S.1 a b = S0.1 a b) : zwl (fX12_back T k0 x1 S) (fun q0 => q0.2.1 a b = S0.1 a b) := by
  unfold fX12_back
  refine zwl_t (fun r1 => ?_)
  refine zwl_i ?_ ?_
  · exact (wI_X12_back_b21  hS)
  · refine zwl_g ?_
    refine zwl_i ?_ ?_
    · exact (wI_X12_back_b21  hS)
    · refine zwl_sIf h0 hS (fun S6 e1 => ?_)
      refine zwl_b (wI_X12_carries h1 h2 h3 h4 h5 h6 h7 h8 h9 h10 h11 h12 h13 h14 h15 h16 h17 h18 h19 h20 h21 h22 h23 h24 h25 h26 h27 e1) (fun r2 S9 e3 => ?_)
      exact zwl_r e3
set_option maxHeartbeats 40000 in
set_option maxRecDepth 100000 in
theorem wI_X0_earnings {T : zT} {k0 : Nat} {k1 : Nat} {x2 : Int32} {x3 : Int32} {x4 : Int32} {S S0 : zS} {a b : Nat}  (hS : S.1 a b = S0.1 a b) : zwl (fX0_earnings T k0 k1 x2 x3 x4 S) (fun q0 => q0.2.1 a b = S0.1 a b) := by
  unfold fX0_earnings
  refine zwl_b (wI_X9_place  hS) (fun r1 S3 e2 => ?_)
  refine zwl_b (wI_X1_holding  e2) (fun r4 S6 e3 => ?_)
  refine zwl_t (fun r7 => ?_)
  exact zwl_r e3
set_option maxHeartbeats 40000 in
set_option maxRecDepth 100000 in
theorem wI_X0_needing {T : zT} {k0 : Nat} {k1 : Nat} {x2 : Int32} {x3 : Int32} {x4 : Int32} {S S0 : zS} {a b : Nat}  (hS : S.1 a b = S0.1 a b) : zwl (fX0_needing T k0 k1 x2 x3 x4 S) (fun q0 => q0.2.1 a b = S0.1 a b) := by
  unfold fX0_needing
  refine zwl_b (wI_X9_place  hS) (fun r1 S3 e2 => ?_)
  refine zwl_b (wI_X1_holding  e2) (fun r4 S6 e3 => ?_)
  refine zwl_t (fun r7 => ?_)
  exact zwl_r e3
set_option maxHeartbeats 40000 in
set_option maxRecDepth 100000 in
theorem wI_X4_doAct {T : zT} {k0 : Nat} {x1 : Int32} {x2 : Int32} {x3 : Int32} {S S0 : zS} {a b : Nat} (h0 : ¬ (a = k0 ∧ b = 3)) (h1 : ¬ (a = k0 ∧ b = 4)) (h2 : ¬ a = zr T k0 11) (h3 : ¬ (a = k0 ∧ b = 15)) (h4 : ¬ a = zr T k0 12) (h5 : ¬ a = zr T k0 13) (h6 : ¬ a = zr T k0 14) (h7 : ¬ (a = k0 ∧ b = 5)) (h8 : ¬ (a = k0 ∧ b = 16)) (hS : S.1 a b = S0.1 a b) : zwl (fX4_doAct T k0 x1 x2 x3 S) (fun q0 => q0.2.1 a b = S0.1 a b) := by
  unfold fX4_doAct
  refine zwl_i ?_ ?_
  · refine zwl_b (wI_X4_fetchOne h0 h1 h2 hS) (fun r2 S4 e1 => ?_)
    refine zwl_g ?_
    exact zwl_r e1
  · refine zwl_i ?_ ?_
    · refine zwl_b (wI_X4_putOne h1 h3 h0 h4 h5 h6 hS) (fun r7 S9 e2 => ?_)
      refine zwl_g ?_
      exact zwl_r e2
    · refine zwl_i ?_ ?_
      · refine zwl_b (wI_X4_sellOne h7 h0 hS) (fun r12 S14 e3 => ?_)
        refine zwl_g ?_
        exact zwl_r e3
      · refine zwl_i ?_ ?_
        · refine zwl_b (wI_X4_halveOne h0 h3 h4 h5 h6 hS) (fun r17 S19 e4 => ?_)
          refine zwl_g ?_
          exact zwl_r e4
        · refine zwl_i ?_ ?_
          · refine zwl_b (wI_X4_borrowOnce h8 h0 hS) (fun r22 S24 e5 => ?_)
            refine zwl_g ?_
            exact zwl_r e5
          · exact zwl_r hS
set_option maxHeartbeats 40000 in
set_option maxRecDepth 100000 in
theorem wI_X5_fillHolding_l10 {T : zT} {k0 : Nat} {x1 : Int32} {x2 : Int32} {x3 : Int32} {S S0 : zS} {a b : Nat} (h0 : ¬ a = zr T k0 13) (h1 : ¬ a = zr T k0 14) (hS : S.1 a b = S0.1 a b) : zwl (fX5_fillHolding_l10 T k0 x1 x2 x3 S) (Sum.elim (fun q1 => q1.2.1 a b = S0.1 a b) (fun q1 => q1.1 a b = S0.1 a b)) := by
  unfold fX5_fillHolding_l10
  refine zwl_i ?_ ?_
  · exact zwl_r hS
  · refine zwl_g ?_
    refine zwl_sIn hS (fun S4 e1 => ?_)
    refine zwl_g ?_
    refine zwl_sIn e1 (fun S6 e2 => ?_)
    refine zwl_g ?_
    refine zwl_sIn e2 (fun S8 e3 => ?_)
    refine zwl_b (wI_X1_holding  e3) (fun r9 S11 e4 => ?_)
    refine zwl_g ?_
    refine zwl_sIa h0 e4 (fun S13 e5 => ?_)
    refine zwl_b (wI_X1_holding  e5) (fun r14 S16 e6 => ?_)
    refine zwl_g ?_
    refine zwl_sIa h1 e6 (fun S18 e7 => ?_)
    refine zwl_v (fun u19 => ?_)
    exact zwl_r e7
set_option maxHeartbeats 40000 in
set_option maxRecDepth 100000 in
theorem wI_X5_fillHolding_l2 {T : zT} {k0 : Nat} {x1 : Int32} {x2 : Int32} {S S0 : zS} {a b : Nat} (h0 : ¬ a = zr T k0 13) (h1 : ¬ a = zr T k0 14) (hS : S.1 a b = S0.1 a b) : zwl (fX5_fillHolding_l2 T k0 x1 x2 S) (Sum.elim (fun q1 => q1.2.1 a b = S0.1 a b) (fun q1 => q1.1 a b = S0.1 a b)) := by
  unfold fX5_fillHolding_l2
  refine zwl_i ?_ ?_
  · exact zwl_r hS
  · refine zwl_b1 (zwl_lp (I := (fun q0 => q0.2.1 a b = S0.1 a b)) (Q := (fun q0 => q0.1 a b = S0.1 a b)) (fun a e3 => (wI_X5_fillHolding_l10 h0 h1 e3)) hS) (fun e20 e1 => ?_)
    refine zwl_v (fun u21 => ?_)
    exact zwl_r e1
set_option maxHeartbeats 40000 in
set_option maxRecDepth 100000 in
theorem wI_X5_fillHolding {T : zT} {k0 : Nat} {x1 : Int32} {S S0 : zS} {a b : Nat} (h0 : ¬ a = zr T k0 13) (h1 : ¬ a = zr T k0 14) (hS : S.1 a b = S0.1 a b) : zwl (fX5_fillHolding T k0 x1 S) (fun q0 => q0.2.1 a b = S0.1 a b) := by
  unfold fX5_fillHolding
  refine zwl_b1 (zwl_lp (I := (fun q0 => q0.2.1 a b = S0.1 a b)) (Q := (fun q0 => q0.1 a b = S0.1 a b)) (fun a e3 => (wI_X5_fillHolding_l2 h0 h1 e3)) hS) (fun e24 e1 => ?_)
  exact zwl_r e1
set_option maxHeartbeats 40000 in
set_option maxRecDepth 100000 in
theorem wI_X5_tracePlan_l2 {T : zT} {k0 : Nat} {x1 : Int32} {S S0 : zS} {a b : Nat} (h0 : ¬ a = zr T k0 7) (hS : S.1 a b = S0.1 a b) : zwl (fX5_tracePlan_l2 T k0 x1 S) (Sum.elim (fun q1 => q1.2.1 a b = S0.1 a b) (fun q1 => q1.1 a b = S0.1 a b)) := by
  unfold fX5_tracePlan_l2
  refine zwl_i ?_ ?_
  · exact zwl_r hS
  · refine zwl_g ?_
    refine zwl_sIa h0 hS (fun S3 e1 => ?_)
    refine zwl_v (fun u4 => ?_)
    exact zwl_r e1
set_option maxHeartbeats 40000 in
set_option maxRecDepth 100000 in
theorem wI_X5_tracePlan_b103 {T : zT} {k0 : Nat} {x2 : Int32} {x3 : Int32} {x4 : Int32} {x5 : Int32} {S S0 : zS} {a b : Nat}  (hS : S.1 a b = S0.1 a b) : zwl (fX5_tracePlan_b103 T k0 x2 x3 x4 x5 S) (Sum.elim (fun q1 => q1.2.1 a b = S0.1 a b) (fun q1 => q1.1 a b = S0.1 a b)) := by
  unfold fX5_tracePlan_b103
  refine zwl_v (fun u17 => ?_)
  exact zwl_r hS
set_option maxHeartbeats 40000 in
set_option maxRecDepth 100000 in
theorem wI_X5_tracePlan_l78 {T : zT} {k0 : Nat} {x2 : Int32} {x3 : Int32} {x4 : Int32} {x5 : Int32} {S S0 : zS} {a b : Nat} (h0 : ¬ a = zr T k0 7) (hS : S.1 a b = S0.1 a b) : zwl (fX5_tracePlan_l78 T k0 x2 x3 x4 x5 S) (Sum.elim (fun q1 => q1.2.1 a b = S0.1 a b) (fun q1 => q1.1 a b = S0.1 a b)) := by
  unfold fX5_tracePlan_l78
  refine zwl_i ?_ ?_
  · exact zwl_r hS
  · refine zwl_i ?_ ?_
    · exact (wI_X5_tracePlan_b103  hS)
    · refine zwl_g ?_
      refine zwl_sIa h0 hS (fun S19 e1 => ?_)
      exact (wI_X5_tracePlan_b103  e1)
set_option maxHeartbeats 40000 in
set_option maxRecDepth 100000 in
theorem wI_X5_tracePlan_b67 {T : zT} {k0 : Nat} {x1 : Int32} {x2 : Int32} {s0 : Int32} {S S0 : zS} {a b : Nat} (h0 : ¬ a = zr T k0 7) (hS : S.1 a b = S0.1 a b) : zwl (fX5_tracePlan_b67 T k0 x1 x2 s0 S) (Sum.elim (fun q1 => q1.2.2.1 a b = S0.1 a b) (fun q1 => q1.1 a b = S0.1 a b)) := by
  unfold fX5_tracePlan_b67
  refine zwl_v (fun u14 => ?_)
  refine zwl_b1 (zwl_lp (I := (fun q0 => q0.2.1 a b = S0.1 a b)) (Q := (fun q0 => q0.1 a b = S0.1 a b)) (fun a e3 => (wI_X5_tracePlan_l78 h0 e3)) hS) (fun e20 e1 => ?_)
  refine zwl_v (fun u21 => ?_)
  exact zwl_r e1
set_option maxHeartbeats 40000 in
set_option maxRecDepth 100000 in
theorem wI_X5_tracePlan_l49 {T : zT} {k0 : Nat} {x1 : Int32} {x2 : Int32} {S S0 : zS} {a b : Nat} (h0 : ¬ a = zr T k0 7) (hS : S.1 a b = S0.1 a b) : zwl (fX5_tracePlan_l49 T k0 x1 x2 S) (Sum.elim (fun q1 => q1.2.2.1 a b = S0.1 a b) (fun q1 => q1.1 a b = S0.1 a b)) := by
  unfold fX5_tracePlan_l49
  refine zwl_i ?_ ?_
  · exact zwl_r hS
  · refine zwl_i ?_ ?_
    · exact (wI_X5_tracePlan_b67 h0 hS)
    · refine zwl_t (fun r12 => ?_)
      exact (wI_X5_tracePlan_b67 h0 hS)
set_option maxHeartbeats 40000 in
set_option maxRecDepth 100000 in
theorem wI_X5_tracePlan {T : zT} {k0 : Nat} {S S0 : zS} {a b : Nat} (h0 : ¬ a = zr T k0 7) (hS : S.1 a b = S0.1 a b) : zwl (fX5_tracePlan T k0 S) (fun q0 => q0.2.1 a b = S0.1 a b) := by
  unfold fX5_tracePlan
  refine zwl_b1 (zwl_lp (I := (fun q0 => q0.2.1 a b = S0.1 a b)) (Q := (fun q0 => q0.1 a b = S0.1 a b)) (fun a e3 => (wI_X5_tracePlan_l2 h0 e3)) hS) (fun e5 e1 => ?_)
  refine zwl_i ?_ ?_
  · refine zwl_v (fun u7 => ?_)
    refine zwl_v (fun u8 => ?_)
    refine zwl_v (fun u9 => ?_)
    refine zwl_b1 (zwl_lp (I := (fun q0 => q0.2.2.1 a b = S0.1 a b)) (Q := (fun q0 => q0.1 a b = S0.1 a b)) (fun a e6 => (wI_X5_tracePlan_l49 h0 e6)) e1) (fun e24 e4 => ?_)
    exact zwl_r e4
  · exact zwl_r e1
set_option maxHeartbeats 40000 in
set_option maxRecDepth 100000 in
theorem wI_X5_hanging_l17 {T : zT} {k0 : Nat} {x1 : Int32} {x2 : Int32} {S S0 : zS} {a b : Nat} (h0 : ¬ a = zr T k0 11) (hS : S.1 a b = S0.1 a b) : zwl (fX5_hanging_l17 T k0 x1 x2 S) (Sum.elim (fun q1 => q1.2.1 a b = S0.1 a b) (fun q1 => q1.1 a b = S0.1 a b)) := by
  unfold fX5_hanging_l17
  refine zwl_i ?_ ?_
  · exact zwl_r hS
  · refine zwl_t (fun r5 => ?_)
    refine zwl_b (wI_X5_pass h0 hS) (fun r1 S9 e2 => ?_)
    refine zwl_v (fun u10 => ?_)
    exact zwl_r e2
set_option maxHeartbeats 40000 in
set_option maxRecDepth 100000 in
theorem wI_X5_hanging {T : zT} {k0 : Nat} {x1 : Int32} {S S0 : zS} {a b : Nat} (h0 : ¬ a = zr T k0 11) (hS : S.1 a b = S0.1 a b) : zwl (fX5_hanging T k0 x1 S) (fun q0 => q0.2.1 a b = S0.1 a b) := by
  unfold fX5_hanging
  refine zwl_b (wI_X5_start h0 hS) (fun r1 S3 e2 => ?_)
  refine zwl_b1 (zwl_lp (I := (fun q0 => q0.2.1 a b = S0.1 a b)) (Q := (fun q0 => q0.1 a b = S0.1 a b)) (fun a e5 => (wI_X5_hanging_l17 h0 e5)) e2) (fun e11 e3 => ?_)
  refine zwl_t (fun r12 => ?_)
  refine zwl_v (fun u14 => ?_)
  exact zwl_r e3
set_option maxHeartbeats 40000 in
set_option maxRecDepth 100000 in
theorem wI_X5_bestNeverPut_l37 {T : zT} {k0 : Nat} {x3 : Int32} {S S0 : zS} {a b : Nat} (h0 : ¬ a = zr T k0 11) (hS : S.1 a b = S0.1 a b) : zwl (fX5_bestNeverPut_l37 T k0 x3 S) (Sum.elim (fun q1 => q1.2.1 a b = S0.1 a b) (fun q1 => q1.1 a b = S0.1 a b)) := by
  unfold fX5_bestNeverPut_l37
  refine zwl_i ?_ ?_
  · exact zwl_r hS
  · refine zwl_b (wI_X5_pass h0 hS) (fun r1 S10 e2 => ?_)
    refine zwl_v (fun u11 => ?_)
    exact zwl_r e2
set_option maxHeartbeats 40000 in
set_option maxRecDepth 100000 in
theorem wI_X5_bestNeverPut {T : zT} {k0 : Nat} {x1 : Int32} {S S0 : zS} {a b : Nat} (h0 : ¬ a = zr T k0 11) (hS : S.1 a b = S0.1 a b) : zwl (fX5_bestNeverPut T k0 x1 S) (fun q0 => q0.2.1 a b = S0.1 a b) := by
  unfold fX5_bestNeverPut
  refine zwl_g ?_
  refine zwl_v (fun u2 => ?_)
  refine zwl_i ?_ ?_
  · refine zwl_b (wI_X5_start h0 hS) (fun r1 S6 e2 => ?_)
    refine zwl_b1 (zwl_lp (I := (fun q0 => q0.2.1 a b = S0.1 a b)) (Q := (fun q0 => q0.1 a b = S0.1 a b)) (fun a e5 => (wI_X5_bestNeverPut_l37 h0 e5)) e2) (fun e12 e3 => ?_)
    refine zwl_t (fun r13 => ?_)
    exact zwl_r e3
  · exact zwl_r hS
set_option maxHeartbeats 40000 in
set_option maxRecDepth 100000 in
theorem wI_X5_bestBorrowing_b15 {T : zT} {S S0 : zS} {a b : Nat}  (hS : S.1 a b = S0.1 a b) : zwl (fX5_bestBorrowing_b15 T S) (fun q0 => q0.2.1 a b = S0.1 a b) := by
  unfold fX5_bestBorrowing_b15
  exact zwl_r hS
set_option maxHeartbeats 40000 in
set_option maxRecDepth 100000 in
theorem wI_X5_bestBorrowing_b120 {T : zT} {k0 : Nat} {x2 : Int32} {S S0 : zS} {a b : Nat} (h0 : ¬ a = zr T k0 11) (hS : S.1 a b = S0.1 a b) : zwl (fX5_bestBorrowing_b120 T k0 x2 S) (Sum.elim (fun q1 => q1.2.1 a b = S0.1 a b) (fun q1 => q1.1 a b = S0.1 a b)) := by
  unfold fX5_bestBorrowing_b120
  refine zwl_b (wI_X5_pass h0 hS) (fun r1 S14 e2 => ?_)
  refine zwl_v (fun u15 => ?_)
  exact zwl_r e2
set_option maxHeartbeats 40000 in
set_option maxRecDepth 100000 in
theorem wI_X5_bestBorrowing_l83 {T : zT} {k0 : Nat} {x2 : Int32} {S S0 : zS} {a b : Nat} (h0 : ¬ a = zr T k0 11) (hS : S.1 a b = S0.1 a b) : zwl (fX5_bestBorrowing_l83 T k0 x2 S) (Sum.elim (fun q1 => q1.2.1 a b = S0.1 a b) (fun q1 => q1.1 a b = S0.1 a b)) := by
  unfold fX5_bestBorrowing_l83
  refine zwl_i ?_ ?_
  · exact zwl_r hS
  · refine zwl_i ?_ ?_
    · refine zwl_b (wI_X5_shift h0 hS) (fun r1 S18 e2 => ?_)
      exact (wI_X5_bestBorrowing_b120 h0 e2)
    · exact (wI_X5_bestBorrowing_b120 h0 hS)
set_option maxHeartbeats 40000 in
set_option maxRecDepth 100000 in
theorem wI_X5_bestBorrowing_b67 {T : zT} {k0 : Nat} {x1 : Int32} {S S0 : zS} {a b : Nat} (h0 : ¬ a = zr T k0 11) (hS : S.1 a b = S0.1 a b) : zwl (fX5_bestBorrowing_b67 T k0 x1 S) (fun q0 => q0.2.1 a b = S0.1 a b) := by
  unfold fX5_bestBorrowing_b67
  refine zwl_b (wI_X5_shift h0 hS) (fun r1 S9 e2 => ?_)
  refine zwl_b1 (zwl_lp (I := (fun q0 => q0.2.1 a b = S0.1 a b)) (Q := (fun q0 => q0.1 a b = S0.1 a b)) (fun a e5 => (wI_X5_bestBorrowing_l83 h0 e5)) e2) (fun e19 e3 => ?_)
  refine zwl_t (fun r20 => ?_)
  exact zwl_r e3
set_option maxHeartbeats 40000 in
set_option maxRecDepth 100000 in
theorem wI_X5_bestBorrowing {T : zT} {k0 : Nat} {x1 : Int32} {S S0 : zS} {a b : Nat} (h0 : ¬ a = zr T k0 11) (hS : S.1 a b = S0.1 a b) : zwl (fX5_bestBorrowing T k0 x1 S) (fun q0 => q0.2.1 a b = S0.1 a b) := by
  unfold fX5_bestBorrowing
  refine zwl_i ?_ ?_
  · exact (wI_X5_bestBorrowing_b15  hS)
  · refine zwl_t (fun r2 => ?_)
    refine zwl_i ?_ ?_
    · exact (wI_X5_bestBorrowing_b15  hS)
    · refine zwl_i ?_ ?_
      · refine zwl_b (wI_X5_start h0 hS) (fun r1 S28 e2 => ?_)
        exact (wI_X5_bestBorrowing_b67 h0 e2)
      · refine zwl_i ?_ ?_
        · exact (wI_X5_bestBorrowing_b67 h0 hS)
        · refine zwl_g ?_
          refine zwl_sIC h0 hS (fun S25 e3 => ?_)
          exact (wI_X5_bestBorrowing_b67 h0 e3)
set_option maxHeartbeats 40000 in
set_option maxRecDepth 100000 in
theorem wI_X5_bestSellingFromLine_l34 {T : zT} {k0 : Nat} {x1 : Int32} {x3 : Int32} {S S0 : zS} {a b : Nat} (h0 : ¬ a = zr T k0 12) (hS : S.1 a b = S0.1 a b) : zwl (fX5_bestSellingFromLine_l34 T k0 x1 x3 S) (Sum.elim (fun q1 => q1.2.1 a b = S0.1 a b) (fun q1 => q1.1 a b = S0.1 a b)) := by
  unfold fX5_bestSellingFromLine_l34
  refine zwl_i ?_ ?_
  · exact zwl_r hS
  · refine zwl_t (fun r8 => ?_)
    refine zwl_b (wI_X5_pass h0 hS) (fun r1 S12 e2 => ?_)
    refine zwl_v (fun u13 => ?_)
    exact zwl_r e2
set_option maxHeartbeats 40000 in
set_option maxRecDepth 100000 in
theorem wI_X5_bestSellingFromLine {T : zT} {k0 : Nat} {x1 : Int32} {x2 : Int32} {S S0 : zS} {a b : Nat} (h0 : ¬ a = zr T k0 12) (hS : S.1 a b = S0.1 a b) : zwl (fX5_bestSellingFromLine T k0 x1 x2 S) (fun q0 => q0.2.1 a b = S0.1 a b) := by
  unfold fX5_bestSellingFromLine
  refine zwl_g ?_
  refine zwl_sIC h0 hS (fun S2 e1 => ?_)
  refine zwl_g ?_
  refine zwl_b (wI_X5_shift h0 e1) (fun r2 S6 e3 => ?_)
  refine zwl_b1 (zwl_lp (I := (fun q0 => q0.2.1 a b = S0.1 a b)) (Q := (fun q0 => q0.1 a b = S0.1 a b)) (fun a e6 => (wI_X5_bestSellingFromLine_l34 h0 e6)) e3) (fun e14 e4 => ?_)
  refine zwl_t (fun r15 => ?_)
  exact zwl_r e4
set_option maxHeartbeats 40000 in
set_option maxRecDepth 100000 in
theorem wI_X6_readThing_l79 {T : zT} {k0 : Nat} {k1 : Nat} {x2 : Int32} {x4 : Int32} {x5 : Int32} {S S0 : zS} {a b : Nat} (h0 : ¬ (a = k0 ∧ b = 1)) (h1 : ¬ (a = k0 ∧ b = 2)) (h2 : ¬ (a = k0 ∧ b = 3)) (h3 : ¬ (a = k0 ∧ b = 4)) (h4 : ¬ (a = k0 ∧ b = 5)) (h5 : ¬ a = zr T k1 8) (h6 : ¬ a = zr T k1 9) (h7 : ¬ a = zr T k1 10) (h8 : ¬ a = zr T k1 11) (hS : S.1 a b = S0.1 a b) : zwl (fX6_readThing_l79 T k0 k1 x2 x4 x5 S) (Sum.elim (fun q1 => q1.2.2.1 a b = S0.1 a b) (Sum.elim (fun q2 => q2.1 a b = S0.1 a b) (Sum.elim (fun q3 => q3.1 a b = S0.1 a b) (fun q3 => q3.1 a b = S0.1 a b)))) := by
  unfold fX6_readThing_l79
  refine zwl_i ?_ ?_
  · exact zwl_r hS
  · refine zwl_i ?_ ?_
    · refine zwl_v (fun u21 => ?_)
      refine zwl_i ?_ ?_
      · exact zwl_r hS
      · refine zwl_i ?_ ?_
        · refine zwl_i ?_ ?_
          · refine zwl_v (fun u25 => ?_)
            refine zwl_b (wI_X6_next h0 h1 h2 h3 hS) (fun r1 S28 e2 => ?_)
            refine zwl_b (wI_X6_readExtra h4 h0 h1 h2 h3 h5 h6 h7 h8 e2) (fun r3 S31 e4 => ?_)
            refine zwl_v (fun u32 => ?_)
            exact zwl_r e4
          · exact zwl_r hS
        · exact zwl_r hS
    · exact zwl_r hS
set_option maxHeartbeats 40000 in
set_option maxRecDepth 100000 in
theorem wI_X6_readThing_b158 {T : zT} {S S0 : zS} {a b : Nat}  (hS : S.1 a b = S0.1 a b) : zwl (fX6_readThing_b158 T S) (fun q0 => q0.2.1 a b = S0.1 a b) := by
  unfold fX6_readThing_b158
  exact zwl_r hS
set_option maxHeartbeats 40000 in
set_option maxRecDepth 100000 in
theorem wI_X6_readThing_b114 {T : zT} {S S0 : zS} {a b : Nat}  (hS : S.1 a b = S0.1 a b) : zwl (fX6_readThing_b114 T S) (fun q0 => q0.2.1 a b = S0.1 a b) := by
  unfold fX6_readThing_b114
  exact zwl_r hS
set_option maxHeartbeats 40000 in
set_option maxRecDepth 100000 in
theorem wI_X6_readThing {T : zT} {k0 : Nat} {k1 : Nat} {S S0 : zS} {a b : Nat} (h0 : ¬ (a = k0 ∧ b = 1)) (h1 : ¬ (a = k0 ∧ b = 2)) (h2 : ¬ (a = k0 ∧ b = 3)) (h3 : ¬ (a = k0 ∧ b = 4)) (h4 : ¬ (a = k1 ∧ b = 0)) (h5 : ¬ (a = k0 ∧ b = 5)) (h6 : ¬ a = zr T k1 6) (h7 : ¬ a = zr T k1 7) (h8 : ¬ a = zr T k1 8) (h9 : ¬ a = zr T k1 9) (h10 : ¬ a = zr T k1 10) (h11 : ¬ a = zr T k1 11) (hS : S.1 a b = S0.1 a b) : zwl (fX6_readThing T k0 k1 S) (fun q0 => q0.2.1 a b = S0.1 a b) := by
  unfold fX6_readThing
  refine zwl_i ?_ ?_
  · refine zwl_v (fun u2 => ?_)
    refine zwl_t (fun r3 => ?_)
    refine zwl_i ?_ ?_
    · refine zwl_b (wI_X6_next h0 h1 h2 h3 hS) (fun r1 S8 e2 => ?_)
      refine zwl_sIf h4 e2 (fun S9 e3 => ?_)
      refine zwl_b (wI_X6_number h5 h0 h1 h2 h3 e3) (fun r10 S12 e4 => ?_)
      refine zwl_b (wI_X6_number h5 h0 h1 h2 h3 e4) (fun r13 S15 e5 => ?_)
      refine zwl_b (wI_X0_tellThing h6 h7 h8 h9 h10 h11 e5) (fun r6 S18 e7 => ?_)
      refine zwl_b1 (zwl_lp (I := (fun q0 => q0.2.2.1 a b = S0.1 a b)) (Q := (Sum.elim (fun q1 => q1.1 a b = S0.1 a b) (Sum.elim (fun q2 => q2.1 a b = S0.1 a b) (fun q2 => q2.1 a b = S0.1 a b)))) (fun a e10 => (wI_X6_readThing_l79 h0 h1 h2 h3 h5 h8 h9 h10 h11 e10)) e7) (fun e33 e8 => ?_)
      refine zwl_m e8 (fun e33_0 e11 => ?_) (fun e33r1 e12 => ?_)
      · exact (wI_X6_readThing_b158  e11)
      · refine zwl_m e12 (fun e33_1 e13 => ?_) (fun e33_2 e14 => ?_)
        · exact (wI_X6_readThing_b114  e13)
        · refine zwl_b (wI_X6_fail h5 e14) (fun r15 S36 e16 => ?_)
          exact zwl_r e16
    · refine zwl_b (wI_X6_fail h5 hS) (fun r17 S41 e18 => ?_)
      exact zwl_r e18
  · refine zwl_b (wI_X6_fail h5 hS) (fun r19 S44 e20 => ?_)
    exact zwl_r e20
set_option maxHeartbeats 40000 in
set_option maxRecDepth 100000 in
theorem wI_X11_image_b9 {T : zT} {S S0 : zS} {a b : Nat}  (hS : S.1 a b = S0.1 a b) : zwl (fX11_image_b9 T S) (fun q0 => q0.2.1 a b = S0.1 a b) := by
  unfold fX11_image_b9
  exact zwl_r hS
set_option maxHeartbeats 40000 in
set_option maxRecDepth 100000 in
theorem wI_X11_image {T : zT} {k0 : Nat} {x1 : Int32} {S S0 : zS} {a b : Nat} (h0 : ¬ (a = zr T (zr T k0 8) (x1 : Int32).toNatClampNeg ∧ b = 0)) (h1 : ¬ (a = zr T (zr T k0 8) (x1 : Int32).toNatClampNeg ∧ b = 1)) (h2 : ¬ (a = zr T (zr T k0 8) (x1 : Int32).toNatClampNeg ∧ b = 2)) (h3 : ¬ (a = zr T (zr T k0 8) (x1 : Int32).toNatClampNeg ∧ b = 3)) (h4 : ¬ (a = zr T (zr T k0 8) (x1 : Int32).toNatClampNeg ∧ b = 4)) (h5 : ¬ (a = zr T (zr T k0 8) (x1 : Int32).toNatClampNeg ∧ b = 5)) (h6 : ¬ a = zr T (zr T (zr T k0 8) (x1 : Int32).toNatClampNeg) 6) (h7 : ¬ a = zr T (zr T (zr T k0 8) (x1 : Int32).toNatClampNeg) 7) (h8 : ¬ a = zr T (zr T (zr T k0 8) (x1 : Int32).toNatClampNeg) 8) (h9 : ¬ a = zr T (zr T (zr T k0 8) (x1 : Int32).toNatClampNeg) 9) (h10 : ¬ a = zr T (zr T (zr T k0 8) (x1 : Int32).toNatClampNeg) 10) (h11 : ¬ a = zr T (zr T (zr T k0 8) (x1 : Int32).toNatClampNeg) 11) (h12 : ¬ a = zr T (zr T (zr T (zr T k0 8) (x1 : Int32).toNatClampNeg) 12) 0) (h13 : ¬ a = zr T (zr T (zr T (zr T k0 8) (x1 : Int32).toNatClampNeg) 12) 1) (h14 : ¬ a = zr T (zr T (zr T (zr T k0 8) (x1 : Int32).toNatClampNeg) 12) 2) (h15 : ¬ (a = zr T (zr T (zr T k0 8) (x1 : Int32).toNatClampNeg) 12 ∧ b = 3)) (h16 : ¬ a = zr T (zr T (zr T (zr T k0 8) (x1 : Int32).toNatClampNeg) 13) 0) (h17 : ¬ a = zr T (zr T (zr T (zr T k0 8) (x1 : Int32).toNatClampNeg) 13) 1) (h18 : ¬ a = zr T (zr T (zr T (zr T k0 8) (x1 : Int32).toNatClampNeg) 13) 2) (h19 : ¬ (a = zr T (zr T (zr T k0 8) (x1 : Int32).toNatClampNeg) 13 ∧ b = 3)) (h20 : ¬ a = zr T (zr T (zr T (zr T k0 8) (x1 : Int32).toNatClampNeg) 14) 0) (h21 : ¬ (a = zr T (zr T (zr T k0 8) (x1 : Int32).toNatClampNeg) 14 ∧ b = 1)) (h22 : ¬ (a = zr T (zr T (zr T k0 8) (x1 : Int32).toNatClampNeg) 14 ∧ b = 2)) (h23 : ¬ a = zr T (zr T (zr T k0 9) (x1 : Int32).toNatClampNeg) 0) (h24 : ¬ a = zr T (zr T (zr T k0 9) (x1 : Int32).toNatClampNeg) 1) (h25 : ¬ a = zr T (zr T (zr T k0 9) (x1 : Int32).toNatClampNeg) 2) (h26 : ¬ (a = zr T (zr T k0 9) (x1 : Int32).toNatClampNeg ∧ b = 3)) (h27 : ¬ a = zr T k0 10) (hS : S.1 a b = S0.1 a b) : zwl (fX11_image T k0 x1 S) (fun q0 => q0.2.1 a b = S0.1 a b) := by
  unfold fX11_image
  refine zwl_i ?_ ?_
  · exact (wI_X11_image_b9  hS)
  · refine zwl_i ?_ ?_
    · refine zwl_g ?_
      refine zwl_b (wI_X0_take h0 h1 h2 h3 h4 h5 h6 h7 h8 h9 h10 h11 h12 h13 h14 h15 h16 h17 h18 h19 h20 h21 h22 hS) (fun r1 S6 e2 => ?_)
      refine zwl_g ?_
      refine zwl_b (wI_X7_take h23 h24 h25 h26 e2) (fun r3 S10 e4 => ?_)
      refine zwl_g ?_
      refine zwl_sIa h27 e4 (fun S12 e5 => ?_)
      exact zwl_r e5
    · exact (wI_X11_image_b9  hS)
set_option maxHeartbeats 40000 in
set_option maxRecDepth 100000 in
theorem wI_X11_back_b18 {T : zT} {S S0 : zS} {a b : Nat}  (hS : S.1 a b = S0.1 a b) : zwl (fX11_back_b18 T S) (fun q0 => q0.2.1 a b = S0.1 a b) := by
  unfold fX11_back_b18
  exact zwl_r hS
set_option maxHeartbeats 40000 in
set_option maxRecDepth 100000 in
theorem wI_X11_back {T : zT} {k0 : Nat} {x1 : Int32} {S S0 : zS} {a b : Nat} (h0 : ¬ (a = zr T k0 3 ∧ b = 0)) (h1 : ¬ (a = zr T k0 3 ∧ b = 1)) (h2 : ¬ (a = zr T k0 3 ∧ b = 2)) (h3 : ¬ (a = zr T k0 3 ∧ b = 3)) (h4 : ¬ (a = zr T k0 3 ∧ b = 4)) (h5 : ¬ (a = zr T k0 3 ∧ b = 5)) (h6 : ¬ a = zr T (zr T k0 3) 6) (h7 : ¬ a = zr T (zr T k0 3) 7) (h8 : ¬ a = zr T (zr T k0 3) 8) (h9 : ¬ a = zr T (zr T k0 3) 9) (h10 : ¬ a = zr T (zr T k0 3) 10) (h11 : ¬ a = zr T (zr T k0 3) 11) (h12 : ¬ a = zr T (zr T (zr T k0 3) 12) 0) (h13 : ¬ a = zr T (zr T (zr T k0 3) 12) 1) (h14 : ¬ a = zr T (zr T (zr T k0 3) 12) 2) (h15 : ¬ (a = zr T (zr T k0 3) 12 ∧ b = 3)) (h16 : ¬ a = zr T (zr T (zr T k0 3) 13) 0) (h17 : ¬ a = zr T (zr T (zr T k0 3) 13) 1) (h18 : ¬ a = zr T (zr T (zr T k0 3) 13) 2) (h19 : ¬ (a = zr T (zr T k0 3) 13 ∧ b = 3)) (h20 : ¬ a = zr T (zr T (zr T k0 3) 14) 0) (h21 : ¬ (a = zr T (zr T k0 3) 14 ∧ b = 1)) (h22 : ¬ (a = zr T (zr T k0 3) 14 ∧ b = 2)) (h23 : ¬ a = zr T (zr T k0 5) 0) (h24 : ¬ a = zr T (zr T k0 5) 1) (h25 : ¬ a = zr T (zr T k0 5) 2) (h26 : ¬ (a = zr T k0 5 ∧ b = 3)) (h27 : ¬ (a = zr T k0 13 ∧ b = 2)) (hS : S.1 a b = S0.1 a b) : zwl (fX11_back T k0 x1 S) (fun q0 => q0.2.1 a b = S0.1 a b) := by
  unfold fX11_back
  refine zwl_i ?_ ?_
  · exact (wI_X11_back_b18  hS)
  · refine zwl_i ?_ ?_
    · exact (wI_X11_back_b18  hS)
    · refine zwl_g ?_
      refine zwl_i ?_ ?_
      · exact (wI_X11_back_b18  hS)
      · refine zwl_g ?_
        refine zwl_b (wI_X0_take h0 h1 h2 h3 h4 h5 h6 h7 h8 h9 h10 h11 h12 h13 h14 h15 h16 h17 h18 h19 h20 h21 h22 hS) (fun r1 S8 e2 => ?_)
        refine zwl_g ?_
        refine zwl_b (wI_X7_take h23 h24 h25 h26 e2) (fun r3 S12 e4 => ?_)
        refine zwl_sIf h27 e4 (fun S13 e5 => ?_)
        exact zwl_r e5
set_option maxHeartbeats 40000 in
set_option maxRecDepth 100000 in
theorem wI_X12_amount_b46 {T : zT} {x4 : Int32} {S S0 : zS} {a b : Nat}  (hS : S.1 a b = S0.1 a b) : zwl (fX12_amount_b46 T x4 S) (fun q0 => q0.2.1 a b = S0.1 a b) := by
  unfold fX12_amount_b46
  exact zwl_r hS
set_option maxHeartbeats 40000 in
set_option maxRecDepth 100000 in
theorem wI_X12_amount_b25 {T : zT} {k0 : Nat} {x1 : Int32} {x3 : Int32} {s0 : Int32} {S S0 : zS} {a b : Nat} (h0 : ¬ (a = k0 ∧ b = 3)) (hS : S.1 a b = S0.1 a b) : zwl (fX12_amount_b25 T k0 x1 x3 s0 S) (fun q0 => q0.2.1 a b = S0.1 a b) := by
  unfold fX12_amount_b25
  refine zwl_i ?_ ?_
  · refine zwl_i ?_ ?_
    · exact (wI_X12_amount_b46  hS)
    · refine zwl_b (wI_X12_fails h0 hS) (fun r1 S10 e2 => ?_)
      exact (wI_X12_amount_b46  e2)
  · exact (wI_X12_amount_b46  hS)
set_option maxHeartbeats 40000 in
set_option maxRecDepth 100000 in
theorem wI_X12_amount {T : zT} {k0 : Nat} {x1 : Int32} {x2 : Int32} {S S0 : zS} {a b : Nat} (h0 : ¬ (a = k0 ∧ b = 2)) (h1 : ¬ (a = k0 ∧ b = 3)) (hS : S.1 a b = S0.1 a b) : zwl (fX12_amount T k0 x1 x2 S) (fun q0 => q0.2.1 a b = S0.1 a b) := by
  unfold fX12_amount
  refine zwl_b (wI_X12_blanks h0 hS) (fun r1 S3 e2 => ?_)
  refine zwl_v (fun u4 => ?_)
  refine zwl_i ?_ ?_
  · refine zwl_b (wI_X12_digits h1 h0 e2) (fun r11 S13 e3 => ?_)
    exact (wI_X12_amount_b25 h1 e3)
  · exact (wI_X12_amount_b25 h1 e2)
set_option maxHeartbeats 40000 in
set_option maxRecDepth 100000 in
theorem wI_X12_comes_b144 {T : zT} {k0 : Nat} {x1 : Int32} {x2 : Int32} {x6 : Int32} {s0 : Int32} {s1 : Int32} {S S0 : zS} {a b : Nat}  (hS : S.1 a b = S0.1 a b) : zwl (fX12_comes_b144 T k0 x1 x2 x6 s0 s1 S) (Sum.elim (fun q1 => q1.2.2.1 a b = S0.1 a b) (fun q1 => q1.2.1 a b = S0.1 a b)) := by
  unfold fX12_comes_b144
  refine zwl_v (fun u16 => ?_)
  refine zwl_v (fun u17 => ?_)
  exact zwl_r hS
set_option maxHeartbeats 40000 in
set_option maxRecDepth 100000 in
theorem wI_X12_comes_b143 {T : zT} {k0 : Nat} {x1 : Int32} {x2 : Int32} {x6 : Int32} {s0 : Int32} {S S0 : zS} {a b : Nat}  (hS : S.1 a b = S0.1 a b) : zwl (fX12_comes_b143 T k0 x1 x2 x6 s0 S) (Sum.elim (fun q1 => q1.2.2.1 a b = S0.1 a b) (fun q1 => q1.2.1 a b = S0.1 a b)) := by
  unfold fX12_comes_b143
  exact (wI_X12_comes_b144  hS)
set_option maxHeartbeats 40000 in
set_option maxRecDepth 100000 in
theorem wI_X12_comes_b133 {T : zT} {k0 : Nat} {x1 : Int32} {x2 : Int32} {x6 : Int32} {s0 : Int32} {S S0 : zS} {a b : Nat}  (hS : S.1 a b = S0.1 a b) : zwl (fX12_comes_b133 T k0 x1 x2 x6 s0 S) (Sum.elim (fun q1 => q1.2.2.1 a b = S0.1 a b) (fun q1 => q1.2.1 a b = S0.1 a b)) := by
  unfold fX12_comes_b133
  refine zwl_g ?_
  exact (wI_X12_comes_b144  hS)
set_option maxHeartbeats 40000 in
set_option maxRecDepth 100000 in
theorem wI_X12_comes_b83 {T : zT} {k0 : Nat} {x1 : Int32} {x2 : Int32} {x5 : Int32} {x6 : Int32} {s0 : Int32} {S S0 : zS} {a b : Nat}  (hS : S.1 a b = S0.1 a b) : zwl (fX12_comes_b83 T k0 x1 x2 x5 x6 s0 S) (Sum.elim (fun q1 => q1.2.2.1 a b = S0.1 a b) (fun q1 => q1.2.1 a b = S0.1 a b)) := by
  unfold fX12_comes_b83
  refine zwl_i ?_ ?_
  · exact (wI_X12_comes_b143  hS)
  · refine zwl_g ?_
    refine zwl_g ?_
    refine zwl_i ?_ ?_
    · exact (wI_X12_comes_b133  hS)
    · refine zwl_g ?_
      refine zwl_g ?_
      refine zwl_b (wI_X12_answer  hS) (fun r24 S26 e1 => ?_)
      refine zwl_i ?_ ?_
      · exact (wI_X12_comes_b133  e1)
      · exact (wI_X12_comes_b143  e1)
set_option maxHeartbeats 40000 in
set_option maxRecDepth 100000 in
theorem wI_X12_comes_b82 {T : zT} {k0 : Nat} {x1 : Int32} {x2 : Int32} {x5 : Int32} {x6 : Int32} {S S0 : zS} {a b : Nat}  (hS : S.1 a b = S0.1 a b) : zwl (fX12_comes_b82 T k0 x1 x2 x5 x6 S) (Sum.elim (fun q1 => q1.2.2.1 a b = S0.1 a b) (fun q1 => q1.2.1 a b = S0.1 a b)) := by
  unfold fX12_comes_b82
  exact (wI_X12_comes_b83  hS)
set_option maxHeartbeats 40000 in
set_option maxRecDepth 100000 in
theorem wI_X12_comes_b78 {T : zT} {k0 : Nat} {x1 : Int32} {x2 : Int32} {x5 : Int32} {x6 : Int32} {S S0 : zS} {a b : Nat}  (hS : S.1 a b = S0.1 a b) : zwl (fX12_comes_b78 T k0 x1 x2 x5 x6 S) (Sum.elim (fun q1 => q1.2.2.1 a b = S0.1 a b) (fun q1 => q1.2.1 a b = S0.1 a b)) := by
  unfold fX12_comes_b78
  exact (wI_X12_comes_b83  hS)
set_option maxHeartbeats 40000 in
set_option maxRecDepth 100000 in
theorem wI_X12_comes_l37 {T : zT} {k0 : Nat} {x1 : Int32} {x2 : Int32} {x5 : Int32} {x6 : Int32} {S S0 : zS} {a b : Nat}  (hS : S.1 a b = S0.1 a b) : zwl (fX12_comes_l37 T k0 x1 x2 x5 x6 S) (Sum.elim (fun q1 => q1.2.2.1 a b = S0.1 a b) (fun q1 => q1.2.1 a b = S0.1 a b)) := by
  unfold fX12_comes_l37
  refine zwl_g ?_
  refine zwl_i ?_ ?_
  · exact zwl_r hS
  · refine zwl_g ?_
    refine zwl_i ?_ ?_
    · refine zwl_i ?_ ?_
      · exact (wI_X12_comes_b78  hS)
      · refine zwl_g ?_
        refine zwl_i ?_ ?_
        · exact (wI_X12_comes_b78  hS)
        · exact (wI_X12_comes_b82  hS)
    · exact (wI_X12_comes_b82  hS)
set_option maxHeartbeats 40000 in
set_option maxRecDepth 100000 in
theorem wI_X12_comes {T : zT} {k0 : Nat} {x1 : Int32} {x2 : Int32} {x3 : Int32} {x4 : Int32} {S S0 : zS} {a b : Nat}  (hS : S.1 a b = S0.1 a b) : zwl (fX12_comes T k0 x1 x2 x3 x4 S) (fun q0 => q0.2.1 a b = S0.1 a b) := by
  unfold fX12_comes
  refine zwl_g ?_
  refine zwl_sIn hS (fun S2 e1 => ?_)
  refine zwl_t (fun r3 => ?_)
  refine zwl_g ?_
  refine zwl_sIn e1 (fun S6 e2 => ?_)
  refine zwl_t (fun r7 => ?_)
  refine zwl_g ?_
  refine zwl_sIn e2 (fun S10 e3 => ?_)
  refine zwl_b1 (zwl_lp (I := (fun q0 => q0.2.2.1 a b = S0.1 a b)) (Q := (fun q0 => q0.2.1 a b = S0.1 a b)) (fun a e6 => (wI_X12_comes_l37  e6)) e3) (fun e31 e4 => ?_)
  exact zwl_r e4
set_option maxHeartbeats 40000 in
set_option maxRecDepth 100000 in
theorem wI_X4_endWeek_b106 {T : zT} {k0 : Nat} {x1 : Int32} {S S0 : zS} {a b : Nat} (h0 : ¬ (a = k0 ∧ b = 8)) (hS : S.1 a b = S0.1 a b) : zwl (fX4_endWeek_b106 T k0 x1 S) (fun q0 => q0.2.1 a b = S0.1 a b) := by
  unfold fX4_endWeek_b106
  refine zwl_sIf h0 hS (fun S10 e1 => ?_)
  exact zwl_r e1
set_option maxHeartbeats 40000 in
set_option maxRecDepth 100000 in
theorem wI_X4_endWeek_b35 {T : zT} {k0 : Nat} {x1 : Int32} {x3 : Int32} {S S0 : zS} {a b : Nat} (h0 : ¬ (a = k0 ∧ b = 3)) (h1 : ¬ (a = k0 ∧ b = 8)) (h2 : ¬ a = zr T k0 9) (h3 : ¬ a = zr T k0 10) (h4 : ¬ (a = k0 ∧ b = 7)) (hS : S.1 a b = S0.1 a b) : zwl (fX4_endWeek_b35 T k0 x1 x3 S) (fun q0 => q0.2.1 a b = S0.1 a b) := by
  unfold fX4_endWeek_b35
  refine zwl_b (wI_X0_needing  hS) (fun r4 S6 e1 => ?_)
  refine zwl_i ?_ ?_
  · refine zwl_sIf h0 e1 (fun S8 e2 => ?_)
    refine zwl_i ?_ ?_
    · exact (wI_X4_endWeek_b106 h1 e2)
    · refine zwl_g ?_
      refine zwl_sIa h2 e2 (fun S12 e3 => ?_)
      refine zwl_g ?_
      refine zwl_sIa h3 e3 (fun S14 e4 => ?_)
      exact (wI_X4_endWeek_b106 h1 e4)
  · refine zwl_sIf h4 e1 (fun S15 e5 => ?_)
    exact zwl_r e5
set_option maxHeartbeats 40000 in
set_option maxRecDepth 100000 in
theorem wI_X4_endWeek {T : zT} {k0 : Nat} {x1 : Int32} {x2 : Int32} {S S0 : zS} {a b : Nat} (h0 : ¬ (a = k0 ∧ b = 3)) (h1 : ¬ (a = k0 ∧ b = 8)) (h2 : ¬ a = zr T k0 9) (h3 : ¬ a = zr T k0 10) (h4 : ¬ (a = k0 ∧ b = 7)) (hS : S.1 a b = S0.1 a b) : zwl (fX4_endWeek T k0 x1 x2 S) (fun q0 => q0.2.1 a b = S0.1 a b) := by
  unfold fX4_endWeek
  refine zwl_t (fun r1 => ?_)
  refine zwl_i ?_ ?_
  · exact (wI_X4_endWeek_b35 h0 h1 h2 h3 h4 hS)
  · refine zwl_b (wI_X0_earnings  hS) (fun r16 S18 e1 => ?_)
    refine zwl_sIf h0 e1 (fun S19 e2 => ?_)
    exact (wI_X4_endWeek_b35 h0 h1 h2 h3 h4 e2)
set_option maxHeartbeats 40000 in
set_option maxRecDepth 100000 in
theorem wI_X4_doActs_l3 {T : zT} {k0 : Nat} {k1 : Nat} {x3 : Int32} {x4 : Int32} {S S0 : zS} {a b : Nat} (h0 : ¬ (a = k0 ∧ b = 3)) (h1 : ¬ (a = k0 ∧ b = 4)) (h2 : ¬ a = zr T k0 11) (h3 : ¬ (a = k0 ∧ b = 15)) (h4 : ¬ a = zr T k0 12) (h5 : ¬ a = zr T k0 13) (h6 : ¬ a = zr T k0 14) (h7 : ¬ (a = k0 ∧ b = 5)) (h8 : ¬ (a = k0 ∧ b = 16)) (hS : S.1 a b = S0.1 a b) : zwl (fX4_doActs_l3 T k0 k1 x3 x4 S) (Sum.elim (fun q1 => q1.2.1 a b = S0.1 a b) (Sum.elim (fun q2 => q2.1 a b = S0.1 a b) (Sum.elim (fun q3 => q3.2.1 a b = S0.1 a b) (fun q3 => q3.2.1 a b = S0.1 a b)))) := by
  unfold fX4_doActs_l3
  refine zwl_i ?_ ?_
  · exact zwl_r hS
  · refine zwl_i ?_ ?_
    · exact zwl_r hS
    · refine zwl_i ?_ ?_
      · exact zwl_r hS
      · refine zwl_g ?_
        refine zwl_i ?_ ?_
        · refine zwl_g ?_
          refine zwl_g ?_
          refine zwl_b (wI_X4_doAct h0 h1 h2 h3 h4 h5 h6 h7 h8 hS) (fun r8 S10 e1 => ?_)
          refine zwl_i ?_ ?_
          · exact zwl_r e1
          · refine zwl_v (fun u12 => ?_)
            exact zwl_r e1
        · exact zwl_r hS
set_option maxHeartbeats 40000 in
set_option maxRecDepth 100000 in
theorem wI_X4_doActs_b75 {T : zT} {k1 : Nat} {S S0 : zS} {a b : Nat}  (hS : S.1 a b = S0.1 a b) : zwl (fX4_doActs_b75 T k1 S) (fun q0 => q0.2.1 a b = S0.1 a b) := by
  unfold fX4_doActs_b75
  exact zwl_r hS
set_option maxHeartbeats 40000 in
set_option maxRecDepth 100000 in
theorem wI_X4_doActs {T : zT} {k0 : Nat} {k1 : Nat} {x2 : Int32} {x3 : Int32} {S S0 : zS} {a b : Nat} (h0 : ¬ (a = k0 ∧ b = 3)) (h1 : ¬ (a = k0 ∧ b = 4)) (h2 : ¬ a = zr T k0 11) (h3 : ¬ (a = k0 ∧ b = 15)) (h4 : ¬ a = zr T k0 12) (h5 : ¬ a = zr T k0 13) (h6 : ¬ a = zr T k0 14) (h7 : ¬ (a = k0 ∧ b = 5)) (h8 : ¬ (a = k0 ∧ b = 16)) (h9 : ¬ (a = k0 ∧ b = 6)) (hS : S.1 a b = S0.1 a b) : zwl (fX4_doActs T k0 k1 x2 x3 S) (fun q0 => q0.2.1 a b = S0.1 a b) := by
  unfold fX4_doActs
  refine zwl_b1 (zwl_lp (I := (fun q0 => q0.2.1 a b = S0.1 a b)) (Q := (Sum.elim (fun q1 => q1.1 a b = S0.1 a b) (Sum.elim (fun q2 => q2.2.1 a b = S0.1 a b) (fun q2 => q2.2.1 a b = S0.1 a b)))) (fun a e3 => (wI_X4_doActs_l3 h0 h1 h2 h3 h4 h5 h6 h7 h8 e3)) hS) (fun e13 e1 => ?_)
  refine zwl_m e1 (fun e13_0 e4 => ?_) (fun e13r1 e5 => ?_)
  · exact (wI_X4_doActs_b75  e4)
  · refine zwl_m e5 (fun e13_1 e6 => ?_) (fun e13_2 e7 => ?_)
    · exact zwl_r e6
    · refine zwl_sIf h9 e7 (fun S14 e8 => ?_)
      exact zwl_r e8
set_option maxHeartbeats 40000 in
set_option maxRecDepth 100000 in
theorem wI_X4_liking_b10 {T : zT} {S S0 : zS} {a b : Nat}  (hS : S.1 a b = S0.1 a b) : zwl (fX4_liking_b10 T S) (fun q0 => q0.2.1 a b = S0.1 a b) := by
  unfold fX4_liking_b10
  exact zwl_r hS
set_option maxHeartbeats 40000 in
set_option maxRecDepth 100000 in
theorem wI_X4_liking_b219 {T : zT} {k0 : Nat} {k1 : Nat} {S S0 : zS} {a b : Nat}  (hS : S.1 a b = S0.1 a b) : zwl (fX4_liking_b219 T k0 k1 S) (fun q0 => q0.2.1 a b = S0.1 a b) := by
  unfold fX4_liking_b219
  refine zwl_b (wI_X8_valueIn  hS) (fun r28 S30 e1 => ?_)
  exact zwl_r e1
set_option maxHeartbeats 40000 in
set_option maxRecDepth 100000 in
theorem wI_X4_liking_b106 {T : zT} {k0 : Nat} {k1 : Nat} {x2 : Int32} {x3 : Int32} {x4 : Int32} {s0 : Int64} {s1 : Int32} {s2 : Nat} {m2 : Nat} {S S0 : zS} {a b : Nat}  (hS : S.1 a b = S0.1 a b) : zwl (fX4_liking_b106 T k0 k1 x2 x3 x4 s0 s1 s2 m2 S) (fun q0 => q0.2.1 a b = S0.1 a b) := by
  unfold fX4_liking_b106
  refine zwl_g ?_
  refine zwl_sIn hS (fun S19 e1 => ?_)
  refine zwl_g ?_
  refine zwl_g ?_
  refine zwl_sIn e1 (fun S22 e2 => ?_)
  refine zwl_g ?_
  refine zwl_sIn e2 (fun S24 e3 => ?_)
  refine zwl_t (fun r25 => ?_)
  refine zwl_i ?_ ?_
  · exact (wI_X4_liking_b219  e3)
  · refine zwl_v (fun u31 => ?_)
    refine zwl_b (wI_X0_earnings  e3) (fun r32 S34 e4 => ?_)
    refine zwl_b (wI_X0_earnings  e4) (fun r35 S37 e5 => ?_)
    refine zwl_g ?_
    refine zwl_sIn e5 (fun S39 e6 => ?_)
    exact (wI_X4_liking_b219  e6)
set_option maxHeartbeats 40000 in
set_option maxRecDepth 100000 in
theorem wI_X4_liking {T : zT} {k0 : Nat} {k1 : Nat} {x2 : Int32} {x3 : Int32} {S S0 : zS} {a b : Nat}  (hS : S.1 a b = S0.1 a b) : zwl (fX4_liking T k0 k1 x2 x3 S) (fun q0 => q0.2.1 a b = S0.1 a b) := by
  unfold fX4_liking
  refine zwl_i ?_ ?_
  · exact (wI_X4_liking_b10  hS)
  · refine zwl_i ?_ ?_
    · refine zwl_t (fun r3 => ?_)
      refine zwl_b (wI_X9_place  hS) (fun r1 S7 e2 => ?_)
      refine zwl_t (fun r8 => ?_)
      refine zwl_g ?_
      refine zwl_sIn e2 (fun S11 e3 => ?_)
      refine zwl_g ?_
      refine zwl_g ?_
      refine zwl_sIn e3 (fun S14 e4 => ?_)
      refine zwl_g ?_
      refine zwl_i ?_ ?_
      · exact (wI_X4_liking_b106  e4)
      · refine zwl_g ?_
        exact (wI_X4_liking_b106  e4)
    · exact (wI_X4_liking_b10  hS)
set_option maxHeartbeats 40000 in
set_option maxRecDepth 100000 in
theorem wI_X5_fillGains_b169 {T : zT} {k0 : Nat} {k1 : Nat} {n1 : Nat} {x2 : Int32} {x3 : Int32} {x4 : Int32} {x5 : Int32} {S S0 : zS} {a b : Nat}  (hS : S.1 a b = S0.1 a b) : zwl (fX5_fillGains_b169 T k0 k1 n1 x2 x3 x4 x5 S) (Sum.elim (fun q1 => q1.2.1 a b = S0.1 a b) (fun q1 => q1.1 a b = S0.1 a b)) := by
  unfold fX5_fillGains_b169
  refine zwl_v (fun u18 => ?_)
  exact zwl_r hS
set_option maxHeartbeats 40000 in
set_option maxRecDepth 100000 in
theorem wI_X5_fillGains_l37 {T : zT} {k0 : Nat} {k1 : Nat} {n1 : Nat} {x2 : Int32} {x3 : Int32} {x4 : Int32} {x5 : Int32} {S S0 : zS} {a b : Nat} (h0 : ¬ a = k1) (hS : S.1 a b = S0.1 a b) : zwl (fX5_fillGains_l37 T k0 k1 n1 x2 x3 x4 x5 S) (Sum.elim (fun q1 => q1.2.1 a b = S0.1 a b) (fun q1 => q1.1 a b = S0.1 a b)) := by
  unfold fX5_fillGains_l37
  refine zwl_i ?_ ?_
  · exact zwl_r hS
  · refine zwl_i ?_ ?_
    · exact zwl_r hS
    · refine zwl_t (fun r10 => ?_)
      refine zwl_v (fun u12 => ?_)
      refine zwl_t (fun r13 => ?_)
      refine zwl_v (fun u15 => ?_)
      refine zwl_v (fun u16 => ?_)
      refine zwl_i ?_ ?_
      · exact (wI_X5_fillGains_b169  hS)
      · refine zwl_t (fun r19 => ?_)
        refine zwl_i ?_ ?_
        · exact (wI_X5_fillGains_b169  hS)
        · refine zwl_g ?_
          refine zwl_t (fun r23 => ?_)
          refine zwl_g ?_
          refine zwl_t (fun r26 => ?_)
          refine zwl_g ?_
          refine zwl_sIa h0 hS (fun S29 e1 => ?_)
          exact (wI_X5_fillGains_b169  e1)
set_option maxHeartbeats 40000 in
set_option maxRecDepth 100000 in
theorem wI_X5_fillGains_b175 {T : zT} {k0 : Nat} {k1 : Nat} {n1 : Nat} {x2 : Int32} {x3 : Int32} {S S0 : zS} {a b : Nat}  (hS : S.1 a b = S0.1 a b) : zwl (fX5_fillGains_b175 T k0 k1 n1 x2 x3 S) (Sum.elim (fun q1 => q1.2.1 a b = S0.1 a b) (fun q1 => q1.1 a b = S0.1 a b)) := by
  unfold fX5_fillGains_b175
  refine zwl_v (fun u31 => ?_)
  exact zwl_r hS
set_option maxHeartbeats 40000 in
set_option maxRecDepth 100000 in
theorem wI_X5_fillGains_l2 {T : zT} {k0 : Nat} {k1 : Nat} {n1 : Nat} {x2 : Int32} {x3 : Int32} {S S0 : zS} {a b : Nat} (h0 : ¬ a = zr T k0 13) (h1 : ¬ a = zr T k0 14) (h2 : ¬ a = k1) (hS : S.1 a b = S0.1 a b) : zwl (fX5_fillGains_l2 T k0 k1 n1 x2 x3 S) (Sum.elim (fun q1 => q1.2.1 a b = S0.1 a b) (fun q1 => q1.1 a b = S0.1 a b)) := by
  unfold fX5_fillGains_l2
  refine zwl_i ?_ ?_
  · exact zwl_r hS
  · refine zwl_i ?_ ?_
    · exact zwl_r hS
    · refine zwl_b (wI_X5_fillHolding h0 h1 hS) (fun r1 S5 e2 => ?_)
      refine zwl_t (fun r6 => ?_)
      refine zwl_b1 (zwl_lp (I := (fun q0 => q0.2.1 a b = S0.1 a b)) (Q := (fun q0 => q0.1 a b = S0.1 a b)) (fun a e5 => (wI_X5_fillGains_l37 h2 e5)) e2) (fun e30 e3 => ?_)
      exact (wI_X5_fillGains_b175  e3)
set_option maxHeartbeats 40000 in
set_option maxRecDepth 100000 in
theorem wI_X5_fillGains_b181 {T : zT} {S S0 : zS} {a b : Nat}  (hS : S.1 a b = S0.1 a b) : zwl (fX5_fillGains_b181 T S) (fun q0 => q0.2.1 a b = S0.1 a b) := by
  unfold fX5_fillGains_b181
  exact zwl_r hS
set_option maxHeartbeats 40000 in
set_option maxRecDepth 100000 in
theorem wI_X5_fillGains {T : zT} {k0 : Nat} {k1 : Nat} {n1 : Nat} {x2 : Int32} {S S0 : zS} {a b : Nat} (h0 : ¬ a = zr T k0 13) (h1 : ¬ a = zr T k0 14) (h2 : ¬ a = k1) (hS : S.1 a b = S0.1 a b) : zwl (fX5_fillGains T k0 k1 n1 x2 S) (fun q0 => q0.2.1 a b = S0.1 a b) := by
  unfold fX5_fillGains
  refine zwl_b1 (zwl_lp (I := (fun q0 => q0.2.1 a b = S0.1 a b)) (Q := (fun q0 => q0.1 a b = S0.1 a b)) (fun a e3 => (wI_X5_fillGains_l2 h0 h1 h2 e3)) hS) (fun e34 e1 => ?_)
  exact (wI_X5_fillGains_b181  e1)
set_option maxHeartbeats 40000 in
set_option maxRecDepth 100000 in
theorem wI_X5_keyThing_b85 {T : zT} {k0 : Nat} {x1 : Int32} {x2 : Int32} {x3 : Int32} {S S0 : zS} {a b : Nat}  (hS : S.1 a b = S0.1 a b) : zwl (fX5_keyThing_b85 T k0 x1 x2 x3 S) (Sum.elim (fun q1 => q1.2.2.2.1 a b = S0.1 a b) (fun q1 => q1.2.1 a b = S0.1 a b)) := by
  unfold fX5_keyThing_b85
  refine zwl_v (fun u5 => ?_)
  exact zwl_r hS
set_option maxHeartbeats 40000 in
set_option maxRecDepth 100000 in
theorem wI_X5_keyThing_b80 {T : zT} {k0 : Nat} {x3 : Int32} {x4 : Int32} {S S0 : zS} {a b : Nat}  (hS : S.1 a b = S0.1 a b) : zwl (fX5_keyThing_b80 T k0 x3 x4 S) (Sum.elim (fun q1 => q1.2.2.2.1 a b = S0.1 a b) (fun q1 => q1.2.1 a b = S0.1 a b)) := by
  unfold fX5_keyThing_b80
  exact (wI_X5_keyThing_b85  hS)
set_option maxHeartbeats 40000 in
set_option maxRecDepth 100000 in
theorem wI_X5_keyThing_b46 {T : zT} {k0 : Nat} {x1 : Int32} {x2 : Int32} {x3 : Int32} {x4 : Int32} {s0 : Int32} {S S0 : zS} {a b : Nat}  (hS : S.1 a b = S0.1 a b) : zwl (fX5_keyThing_b46 T k0 x1 x2 x3 x4 s0 S) (Sum.elim (fun q1 => q1.2.2.2.1 a b = S0.1 a b) (fun q1 => q1.2.1 a b = S0.1 a b)) := by
  unfold fX5_keyThing_b46
  refine zwl_i ?_ ?_
  · refine zwl_i ?_ ?_
    · refine zwl_g ?_
      refine zwl_g ?_
      refine zwl_i ?_ ?_
      · exact (wI_X5_keyThing_b85  hS)
      · exact (wI_X5_keyThing_b80  hS)
    · exact (wI_X5_keyThing_b85  hS)
  · exact (wI_X5_keyThing_b80  hS)
set_option maxHeartbeats 40000 in
set_option maxRecDepth 100000 in
theorem wI_X5_keyThing_b41 {T : zT} {k0 : Nat} {x1 : Int32} {x2 : Int32} {x3 : Int32} {x4 : Int32} {S S0 : zS} {a b : Nat}  (hS : S.1 a b = S0.1 a b) : zwl (fX5_keyThing_b41 T k0 x1 x2 x3 x4 S) (Sum.elim (fun q1 => q1.2.2.2.1 a b = S0.1 a b) (fun q1 => q1.2.1 a b = S0.1 a b)) := by
  unfold fX5_keyThing_b41
  exact (wI_X5_keyThing_b46  hS)
set_option maxHeartbeats 40000 in
set_option maxRecDepth 100000 in
theorem wI_X5_keyThing_l6 {T : zT} {k0 : Nat} {x1 : Int32} {x2 : Int32} {x3 : Int32} {S S0 : zS} {a b : Nat} (h0 : ¬ a = zr T k0 11) (hS : S.1 a b = S0.1 a b) : zwl (fX5_keyThing_l6 T k0 x1 x2 x3 S) (Sum.elim (fun q1 => q1.2.2.2.1 a b = S0.1 a b) (fun q1 => q1.2.1 a b = S0.1 a b)) := by
  unfold fX5_keyThing_l6
  refine zwl_i ?_ ?_
  · exact zwl_r hS
  · refine zwl_t (fun r2 => ?_)
    refine zwl_i ?_ ?_
    · exact (wI_X5_keyThing_b85  hS)
    · refine zwl_b (wI_X5_hanging h0 hS) (fun r6 S8 e1 => ?_)
      refine zwl_i ?_ ?_
      · exact (wI_X5_keyThing_b41  e1)
      · refine zwl_i ?_ ?_
        · exact (wI_X5_keyThing_b46  e1)
        · exact (wI_X5_keyThing_b41  e1)
set_option maxHeartbeats 40000 in
set_option maxRecDepth 100000 in
theorem wI_X5_keyThing {T : zT} {k0 : Nat} {S S0 : zS} {a b : Nat} (h0 : ¬ a = zr T k0 11) (hS : S.1 a b = S0.1 a b) : zwl (fX5_keyThing T k0 S) (fun q0 => q0.2.1 a b = S0.1 a b) := by
  unfold fX5_keyThing
  refine zwl_b1 (zwl_lp (I := (fun q0 => q0.2.2.2.1 a b = S0.1 a b)) (Q := (fun q0 => q0.2.1 a b = S0.1 a b)) (fun a e3 => (wI_X5_keyThing_l6 h0 e3)) hS) (fun e16 e1 => ?_)
  exact zwl_r e1
set_option maxHeartbeats 40000 in
set_option maxRecDepth 100000 in
theorem wI_X5_borrowingWeek_b17 {T : zT} {s0 : Int32} {S S0 : zS} {a b : Nat}  (hS : S.1 a b = S0.1 a b) : zwl (fX5_borrowingWeek_b17 T s0 S) (fun q0 => q0.2.1 a b = S0.1 a b) := by
  unfold fX5_borrowingWeek_b17
  exact zwl_r hS
set_option maxHeartbeats 40000 in
set_option maxRecDepth 100000 in
theorem wI_X5_borrowingWeek {T : zT} {k0 : Nat} {S S0 : zS} {a b : Nat} (h0 : ¬ a = zr T k0 11) (hS : S.1 a b = S0.1 a b) : zwl (fX5_borrowingWeek T k0 S) (fun q0 => q0.2.1 a b = S0.1 a b) := by
  unfold fX5_borrowingWeek
  refine zwl_b (wI_X5_bestBorrowing h0 hS) (fun r1 S3 e1 => ?_)
  refine zwl_i ?_ ?_
  · exact (wI_X5_borrowingWeek_b17  e1)
  · exact (wI_X5_borrowingWeek_b17  e1)
set_option maxHeartbeats 40000 in
set_option maxRecDepth 100000 in
theorem wI_X5_bestSelling_l31 {T : zT} {k0 : Nat} {x1 : Int32} {x2 : Int32} {x3 : Int32} {S S0 : zS} {a b : Nat} (h0 : ¬ a = zr T k0 11) (hS : S.1 a b = S0.1 a b) : zwl (fX5_bestSelling_l31 T k0 x1 x2 x3 S) (Sum.elim (fun q1 => q1.2.1 a b = S0.1 a b) (fun q1 => q1.1 a b = S0.1 a b)) := by
  unfold fX5_bestSelling_l31
  refine zwl_i ?_ ?_
  · exact zwl_r hS
  · refine zwl_b (wI_X5_pass h0 hS) (fun r1 S10 e2 => ?_)
    refine zwl_v (fun u11 => ?_)
    exact zwl_r e2
set_option maxHeartbeats 40000 in
set_option maxRecDepth 100000 in
theorem wI_X5_bestSelling {T : zT} {k0 : Nat} {x1 : Int32} {x2 : Int32} {S S0 : zS} {a b : Nat} (h0 : ¬ a = zr T k0 11) (h1 : ¬ a = zr T k0 12) (hS : S.1 a b = S0.1 a b) : zwl (fX5_bestSelling T k0 x1 x2 S) (fun q0 => q0.2.1 a b = S0.1 a b) := by
  unfold fX5_bestSelling
  refine zwl_t (fun r1 => ?_)
  refine zwl_i ?_ ?_
  · refine zwl_b (wI_X5_start h0 hS) (fun r1 S6 e2 => ?_)
    refine zwl_b1 (zwl_lp (I := (fun q0 => q0.2.1 a b = S0.1 a b)) (Q := (fun q0 => q0.1 a b = S0.1 a b)) (fun a e5 => (wI_X5_bestSelling_l31 h0 e5)) e2) (fun e12 e3 => ?_)
    refine zwl_b (wI_X5_bestSellingFromLine h1 e3) (fun r13 S15 e6 => ?_)
    exact zwl_r e6
  · exact zwl_r hS
set_option maxHeartbeats 40000 in
set_option maxRecDepth 100000 in
theorem wI_X5_sellingWeek_b71 {T : zT} {k0 : Nat} {x1 : Int32} {x2 : Int32} {x3 : Int32} {x4 : Int32} {S S0 : zS} {a b : Nat} (h0 : ¬ a = zr T k0 11) (hS : S.1 a b = S0.1 a b) : zwl (fX5_sellingWeek_b71 T k0 x1 x2 x3 x4 S) (Sum.elim (fun q1 => q1.2.2.2.1 a b = S0.1 a b) (fun q1 => q1.2.1 a b = S0.1 a b)) := by
  unfold fX5_sellingWeek_b71
  refine zwl_b (wI_X5_pass h0 hS) (fun r1 S15 e2 => ?_)
  refine zwl_v (fun u16 => ?_)
  exact zwl_r e2
set_option maxHeartbeats 40000 in
set_option maxRecDepth 100000 in
theorem wI_X5_sellingWeek_l25 {T : zT} {k0 : Nat} {x1 : Int32} {x2 : Int32} {x3 : Int32} {x4 : Int32} {S S0 : zS} {a b : Nat} (h0 : ¬ a = zr T k0 12) (h1 : ¬ a = zr T k0 11) (hS : S.1 a b = S0.1 a b) : zwl (fX5_sellingWeek_l25 T k0 x1 x2 x3 x4 S) (Sum.elim (fun q1 => q1.2.2.2.1 a b = S0.1 a b) (fun q1 => q1.2.1 a b = S0.1 a b)) := by
  unfold fX5_sellingWeek_l25
  refine zwl_i ?_ ?_
  · exact zwl_r hS
  · refine zwl_t (fun r6 => ?_)
    refine zwl_i ?_ ?_
    · refine zwl_b (wI_X5_bestSellingFromLine h0 hS) (fun r9 S11 e1 => ?_)
      refine zwl_i ?_ ?_
      · exact (wI_X5_sellingWeek_b71 h1 e1)
      · exact (wI_X5_sellingWeek_b71 h1 e1)
    · exact zwl_r hS
set_option maxHeartbeats 40000 in
set_option maxRecDepth 100000 in
theorem wI_X5_sellingWeek_b94 {T : zT} {x2 : Int32} {S S0 : zS} {a b : Nat}  (hS : S.1 a b = S0.1 a b) : zwl (fX5_sellingWeek_b94 T x2 S) (fun q0 => q0.2.1 a b = S0.1 a b) := by
  unfold fX5_sellingWeek_b94
  exact zwl_r hS
set_option maxHeartbeats 40000 in
set_option maxRecDepth 100000 in
theorem wI_X5_sellingWeek {T : zT} {k0 : Nat} {x1 : Int32} {S S0 : zS} {a b : Nat} (h0 : ¬ a = zr T k0 11) (h1 : ¬ a = zr T k0 12) (hS : S.1 a b = S0.1 a b) : zwl (fX5_sellingWeek T k0 x1 S) (fun q0 => q0.2.1 a b = S0.1 a b) := by
  unfold fX5_sellingWeek
  refine zwl_v (fun u1 => ?_)
  refine zwl_b (wI_X5_start h0 hS) (fun r1 S4 e2 => ?_)
  refine zwl_b1 (zwl_lp (I := (fun q0 => q0.2.2.2.1 a b = S0.1 a b)) (Q := (fun q0 => q0.2.1 a b = S0.1 a b)) (fun a e5 => (wI_X5_sellingWeek_l25 h1 h0 e5)) e2) (fun e17 e3 => ?_)
  exact (wI_X5_sellingWeek_b94  e3)
set_option maxHeartbeats 40000 in
set_option maxRecDepth 100000 in
theorem wI_X11_earned_b18 {T : zT} {S S0 : zS} {a b : Nat}  (hS : S.1 a b = S0.1 a b) : zwl (fX11_earned_b18 T S) (fun q0 => q0.2.1 a b = S0.1 a b) := by
  unfold fX11_earned_b18
  exact zwl_r hS
set_option maxHeartbeats 40000 in
set_option maxRecDepth 100000 in
theorem wI_X11_earned_b82 {T : zT} {s0 : Int32} {S S0 : zS} {a b : Nat}  (hS : S.1 a b = S0.1 a b) : zwl (fX11_earned_b82 T s0 S) (fun q0 => q0.2.1 a b = S0.1 a b) := by
  unfold fX11_earned_b82
  exact zwl_r hS
set_option maxHeartbeats 40000 in
set_option maxRecDepth 100000 in
theorem wI_X11_earned {T : zT} {k0 : Nat} {x1 : Int32} {x2 : Int32} {x3 : Int32} {S S0 : zS} {a b : Nat}  (hS : S.1 a b = S0.1 a b) : zwl (fX11_earned T k0 x1 x2 x3 S) (fun q0 => q0.2.1 a b = S0.1 a b) := by
  unfold fX11_earned
  refine zwl_t (fun r1 => ?_)
  refine zwl_i ?_ ?_
  · exact (wI_X11_earned_b18  hS)
  · refine zwl_t (fun r4 => ?_)
    refine zwl_i ?_ ?_
    · exact (wI_X11_earned_b18  hS)
    · refine zwl_i ?_ ?_
      · refine zwl_b (wI_X0_earnings  hS) (fun r12 S14 e1 => ?_)
        exact zwl_r e1
      · refine zwl_i ?_ ?_
        · refine zwl_b (wI_X0_needing  hS) (fun r9 S11 e2 => ?_)
          exact (wI_X11_earned_b82  e2)
        · exact (wI_X11_earned_b82  hS)
set_option maxHeartbeats 40000 in
set_option maxRecDepth 100000 in
theorem wI_X11_most_b25 {T : zT} {S S0 : zS} {a b : Nat}  (hS : S.1 a b = S0.1 a b) : zwl (fX11_most_b25 T S) (fun q0 => q0.2.1 a b = S0.1 a b) := by
  unfold fX11_most_b25
  exact zwl_r hS
set_option maxHeartbeats 40000 in
set_option maxRecDepth 100000 in
theorem wI_X11_most_b110 {T : zT} {k0 : Nat} {x1 : Int32} {x2 : Int32} {x3 : Int32} {x4 : Int32} {x5 : Int32} {S S0 : zS} {a b : Nat}  (hS : S.1 a b = S0.1 a b) : zwl (fX11_most_b110 T k0 x1 x2 x3 x4 x5 S) (Sum.elim (fun q1 => q1.2.2.2.1 a b = S0.1 a b) (fun q1 => q1.2.1 a b = S0.1 a b)) := by
  unfold fX11_most_b110
  refine zwl_v (fun u12 => ?_)
  exact zwl_r hS
set_option maxHeartbeats 40000 in
set_option maxRecDepth 100000 in
theorem wI_X11_most_l35 {T : zT} {k0 : Nat} {x1 : Int32} {x2 : Int32} {x3 : Int32} {x4 : Int32} {x5 : Int32} {S S0 : zS} {a b : Nat}  (hS : S.1 a b = S0.1 a b) : zwl (fX11_most_l35 T k0 x1 x2 x3 x4 x5 S) (Sum.elim (fun q1 => q1.2.2.2.1 a b = S0.1 a b) (fun q1 => q1.2.1 a b = S0.1 a b)) := by
  unfold fX11_most_l35
  refine zwl_i ?_ ?_
  · exact zwl_r hS
  · refine zwl_t (fun r9 => ?_)
    refine zwl_i ?_ ?_
    · exact (wI_X11_most_b110  hS)
    · refine zwl_t (fun r13 => ?_)
      refine zwl_i ?_ ?_
      · refine zwl_b (wI_X0_earnings  hS) (fun r16 S18 e1 => ?_)
        refine zwl_i ?_ ?_
        · exact (wI_X11_most_b110  e1)
        · exact (wI_X11_most_b110  e1)
      · exact (wI_X11_most_b110  hS)
set_option maxHeartbeats 40000 in
set_option maxRecDepth 100000 in
theorem wI_X11_most {T : zT} {k0 : Nat} {x1 : Int32} {x2 : Int32} {S S0 : zS} {a b : Nat}  (hS : S.1 a b = S0.1 a b) : zwl (fX11_most T k0 x1 x2 S) (fun q0 => q0.2.1 a b = S0.1 a b) := by
  unfold fX11_most
  refine zwl_t (fun r1 => ?_)
  refine zwl_i ?_ ?_
  · exact (wI_X11_most_b25  hS)
  · refine zwl_i ?_ ?_
    · exact (wI_X11_most_b25  hS)
    · refine zwl_t (fun r5 => ?_)
      refine zwl_i ?_ ?_
      · refine zwl_b1 (zwl_lp (I := (fun q0 => q0.2.2.2.1 a b = S0.1 a b)) (Q := (fun q0 => q0.2.1 a b = S0.1 a b)) (fun a e3 => (wI_X11_most_l35  e3)) hS) (fun e20 e1 => ?_)
        exact zwl_r e1
      · exact (wI_X11_most_b25  hS)
set_option maxHeartbeats 40000 in
set_option maxRecDepth 100000 in
theorem wI_X11_pays_b37 {T : zT} {S S0 : zS} {a b : Nat}  (hS : S.1 a b = S0.1 a b) : zwl (fX11_pays_b37 T S) (fun q0 => q0.2.1 a b = S0.1 a b) := by
  unfold fX11_pays_b37
  exact zwl_r hS
set_option maxHeartbeats 40000 in
set_option maxRecDepth 100000 in
theorem wI_X11_pays_l74 {T : zT} {k0 : Nat} {x2 : Int32} {x3 : Int32} {x4 : Int32} {x5 : Int32} {x6 : Int32} {x7 : Int32} {x8 : Int32} {S S0 : zS} {a b : Nat}  (hS : S.1 a b = S0.1 a b) : zwl (fX11_pays_l74 T k0 x2 x3 x4 x5 x6 x7 x8 S) (Sum.elim (fun q1 => q1.2.2.1 a b = S0.1 a b) (Sum.elim (fun q2 => q2.1 a b = S0.1 a b) (fun q2 => q2.2.1 a b = S0.1 a b))) := by
  unfold fX11_pays_l74
  refine zwl_i ?_ ?_
  · exact zwl_r hS
  · refine zwl_v (fun u16 => ?_)
    refine zwl_b (wI_X0_earnings  hS) (fun r17 S19 e1 => ?_)
    refine zwl_v (fun u20 => ?_)
    refine zwl_b (wI_X0_earnings  e1) (fun r21 S23 e2 => ?_)
    refine zwl_v (fun u24 => ?_)
    refine zwl_i ?_ ?_
    · refine zwl_v (fun u26 => ?_)
      exact zwl_r e2
    · exact zwl_r e2
set_option maxHeartbeats 40000 in
set_option maxRecDepth 100000 in
theorem wI_X11_pays {T : zT} {k0 : Nat} {x1 : Int32} {x2 : Int32} {x3 : Int32} {S S0 : zS} {a b : Nat}  (hS : S.1 a b = S0.1 a b) : zwl (fX11_pays T k0 x1 x2 x3 S) (fun q0 => q0.2.1 a b = S0.1 a b) := by
  unfold fX11_pays
  refine zwl_t (fun r1 => ?_)
  refine zwl_i ?_ ?_
  · exact (wI_X11_pays_b37  hS)
  · refine zwl_t (fun r4 => ?_)
    refine zwl_i ?_ ?_
    · exact (wI_X11_pays_b37  hS)
    · refine zwl_t (fun r7 => ?_)
      refine zwl_i ?_ ?_
      · exact (wI_X11_pays_b37  hS)
      · refine zwl_i ?_ ?_
        · exact (wI_X11_pays_b37  hS)
        · refine zwl_v (fun u11 => ?_)
          refine zwl_v (fun u12 => ?_)
          refine zwl_t (fun r13 => ?_)
          refine zwl_b1 (zwl_lp (I := (fun q0 => q0.2.2.1 a b = S0.1 a b)) (Q := (Sum.elim (fun q1 => q1.1 a b = S0.1 a b) (fun q1 => q1.2.1 a b = S0.1 a b))) (fun a e3 => (wI_X11_pays_l74  e3)) hS) (fun e27 e1 => ?_)
          refine zwl_m e1 (fun e27_0 e4 => ?_) (fun e27_1 e5 => ?_)
          · exact zwl_r e4
          · exact zwl_r e5
set_option maxHeartbeats 40000 in
set_option maxRecDepth 100000 in
theorem wI_X12_extra_b124 {T : zT} {s0 : Int32} {s1 : Int32} {s2 : Nat} {m2 : Nat} {S S0 : zS} {a b : Nat} (h0 : ¬ a = s2) (hS : S.1 a b = S0.1 a b) : zwl (fX12_extra_b124 T s0 s1 s2 m2 S) (fun q0 => q0.2.1 a b = S0.1 a b) := by
  unfold fX12_extra_b124
  refine zwl_g ?_
  refine zwl_sIa h0 hS (fun S24 e1 => ?_)
  exact zwl_r e1
set_option maxHeartbeats 40000 in
set_option maxRecDepth 100000 in
theorem wI_X12_extra_b103 {T : zT} {k0 : Nat} {x1 : Int32} {x2 : Int32} {x3 : Int32} {s0 : Int32} {s1 : Int32} {s2 : Nat} {m2 : Nat} {S S0 : zS} {a b : Nat} (h0 : ¬ a = s2) (h1 : ¬ a = zr T k0 28) (hS : S.1 a b = S0.1 a b) : zwl (fX12_extra_b103 T k0 x1 x2 x3 s0 s1 s2 m2 S) (fun q0 => q0.2.1 a b = S0.1 a b) := by
  unfold fX12_extra_b103
  refine zwl_g ?_
  refine zwl_sIa h0 hS (fun S20 e1 => ?_)
  refine zwl_i ?_ ?_
  · exact (wI_X12_extra_b124 h1 e1)
  · refine zwl_g ?_
    exact (wI_X12_extra_b124 h1 e1)
set_option maxHeartbeats 40000 in
set_option maxRecDepth 100000 in
theorem wI_X12_extra_b82 {T : zT} {k0 : Nat} {x1 : Int32} {x2 : Int32} {x3 : Int32} {s0 : Int32} {s1 : Int32} {s2 : Nat} {m2 : Nat} {S S0 : zS} {a b : Nat} (h0 : ¬ a = s2) (h1 : ¬ a = zr T k0 27) (h2 : ¬ a = zr T k0 28) (hS : S.1 a b = S0.1 a b) : zwl (fX12_extra_b82 T k0 x1 x2 x3 s0 s1 s2 m2 S) (fun q0 => q0.2.1 a b = S0.1 a b) := by
  unfold fX12_extra_b82
  refine zwl_g ?_
  refine zwl_sIa h0 hS (fun S16 e1 => ?_)
  refine zwl_i ?_ ?_
  · exact (wI_X12_extra_b103 h1 h2 e1)
  · refine zwl_g ?_
    exact (wI_X12_extra_b103 h1 h2 e1)
set_option maxHeartbeats 40000 in
set_option maxRecDepth 100000 in
theorem wI_X12_extra_b61 {T : zT} {k0 : Nat} {x1 : Int32} {x2 : Int32} {x3 : Int32} {s0 : Int32} {s1 : Int32} {s2 : Nat} {m2 : Nat} {S S0 : zS} {a b : Nat} (h0 : ¬ a = s2) (h1 : ¬ a = zr T k0 26) (h2 : ¬ a = zr T k0 27) (h3 : ¬ a = zr T k0 28) (hS : S.1 a b = S0.1 a b) : zwl (fX12_extra_b61 T k0 x1 x2 x3 s0 s1 s2 m2 S) (fun q0 => q0.2.1 a b = S0.1 a b) := by
  unfold fX12_extra_b61
  refine zwl_g ?_
  refine zwl_sIa h0 hS (fun S12 e1 => ?_)
  refine zwl_i ?_ ?_
  · exact (wI_X12_extra_b82 h1 h2 h3 e1)
  · refine zwl_g ?_
    exact (wI_X12_extra_b82 h1 h2 h3 e1)
set_option maxHeartbeats 40000 in
set_option maxRecDepth 100000 in
theorem wI_X12_extra_b38 {T : zT} {k0 : Nat} {x1 : Int32} {x2 : Int32} {s0 : Int32} {s1 : Int32} {s2 : Nat} {S S0 : zS} {a b : Nat} (h0 : ¬ (a = s2 ∧ b = 2)) (h1 : ¬ (a = s2 ∧ b = 3)) (h2 : ¬ a = zr T k0 25) (h3 : ¬ a = zr T k0 26) (h4 : ¬ a = zr T k0 27) (h5 : ¬ a = zr T k0 28) (hS : S.1 a b = S0.1 a b) : zwl (fX12_extra_b38 T k0 x1 x2 s0 s1 s2 S) (fun q0 => q0.2.1 a b = S0.1 a b) := by
  unfold fX12_extra_b38
  refine zwl_b (wI_X12_amount h0 h1 hS) (fun r6 S8 e1 => ?_)
  refine zwl_i ?_ ?_
  · exact (wI_X12_extra_b61 h2 h3 h4 h5 e1)
  · refine zwl_g ?_
    exact (wI_X12_extra_b61 h2 h3 h4 h5 e1)
set_option maxHeartbeats 40000 in
set_option maxRecDepth 100000 in
theorem wI_X12_extra_b26 {T : zT} {k0 : Nat} {x1 : Int32} {x2 : Int32} {s0 : Int32} {s1 : Nat} {S S0 : zS} {a b : Nat} (h0 : ¬ (a = s1 ∧ b = 2)) (h1 : ¬ (a = s1 ∧ b = 3)) (h2 : ¬ a = zr T k0 25) (h3 : ¬ a = zr T k0 26) (h4 : ¬ a = zr T k0 27) (h5 : ¬ a = zr T k0 28) (hS : S.1 a b = S0.1 a b) : zwl (fX12_extra_b26 T k0 x1 x2 s0 s1 S) (fun q0 => q0.2.1 a b = S0.1 a b) := by
  unfold fX12_extra_b26
  refine zwl_i ?_ ?_
  · exact (wI_X12_extra_b38 h0 h1 h2 h3 h4 h5 hS)
  · exact (wI_X12_extra_b38 h0 h1 h2 h3 h4 h5 hS)
set_option maxHeartbeats 40000 in
set_option maxRecDepth 100000 in
theorem wI_X12_extra {T : zT} {k0 : Nat} {x1 : Int32} {x2 : Int32} {S S0 : zS} {a b : Nat} (h0 : ¬ (a = k0 ∧ b = 2)) (h1 : ¬ (a = k0 ∧ b = 3)) (h2 : ¬ a = zr T k0 25) (h3 : ¬ a = zr T k0 26) (h4 : ¬ a = zr T k0 27) (h5 : ¬ a = zr T k0 28) (hS : S.1 a b = S0.1 a b) : zwl (fX12_extra T k0 x1 x2 S) (fun q0 => q0.2.1 a b = S0.1 a b) := by
  unfold fX12_extra
  refine zwl_t (fun r1 => ?_)
  refine zwl_sIf h0 hS (fun S3 e1 => ?_)
  refine zwl_i ?_ ?_
  · exact (wI_X12_extra_b26 h0 h1 h2 h3 h4 h5 e1)
  · exact (wI_X12_extra_b26 h0 h1 h2 h3 h4 h5 e1)
set_option maxHeartbeats 40000 in
set_option maxRecDepth 100000 in
theorem wI_X12_earned_b52 {T : zT} {s0 : Int32} {S S0 : zS} {a b : Nat}  (hS : S.1 a b = S0.1 a b) : zwl (fX12_earned_b52 T s0 S) (fun q0 => q0.2.1 a b = S0.1 a b) := by
  unfold fX12_earned_b52
  exact zwl_r hS
set_option maxHeartbeats 40000 in
set_option maxRecDepth 100000 in
theorem wI_X12_earned_b51 {T : zT} {S S0 : zS} {a b : Nat}  (hS : S.1 a b = S0.1 a b) : zwl (fX12_earned_b51 T S) (fun q0 => q0.2.1 a b = S0.1 a b) := by
  unfold fX12_earned_b51
  exact (wI_X12_earned_b52  hS)
set_option maxHeartbeats 40000 in
set_option maxRecDepth 100000 in
theorem wI_X12_earned_b35 {T : zT} {k0 : Nat} {x1 : Int32} {x2 : Int32} {s0 : Int32} {s1 : Nat} {S S0 : zS} {a b : Nat}  (hS : S.1 a b = S0.1 a b) : zwl (fX12_earned_b35 T k0 x1 x2 s0 s1 S) (fun q0 => q0.2.1 a b = S0.1 a b) := by
  unfold fX12_earned_b35
  refine zwl_t (fun r11 => ?_)
  refine zwl_b (wI_X12_comes  hS) (fun r13 S15 e1 => ?_)
  exact (wI_X12_earned_b52  e1)
set_option maxHeartbeats 40000 in
set_option maxRecDepth 100000 in
theorem wI_X12_earned {T : zT} {k0 : Nat} {x1 : Int32} {x2 : Int32} {x3 : Int32} {S S0 : zS} {a b : Nat}  (hS : S.1 a b = S0.1 a b) : zwl (fX12_earned T k0 x1 x2 x3 S) (fun q0 => q0.2.1 a b = S0.1 a b) := by
  unfold fX12_earned
  refine zwl_t (fun r1 => ?_)
  refine zwl_i ?_ ?_
  · exact (wI_X12_earned_b51  hS)
  · refine zwl_t (fun r4 => ?_)
    refine zwl_i ?_ ?_
    · exact (wI_X12_earned_b51  hS)
    · refine zwl_t (fun r7 => ?_)
      refine zwl_i ?_ ?_
      · exact (wI_X12_earned_b51  hS)
      · refine zwl_i ?_ ?_
        · exact (wI_X12_earned_b35  hS)
        · exact (wI_X12_earned_b35  hS)
set_option maxHeartbeats 40000 in
set_option maxRecDepth 100000 in
theorem wI_X12_ends_b35 {T : zT} {k0 : Nat} {x1 : Int32} {x3 : Int32} {x4 : Int32} {s0 : Int32} {s1 : Int32} {s2 : Nat} {S S0 : zS} {a b : Nat} (h0 : ¬ (a = s2 ∧ b = 48)) (h1 : ¬ (a = k0 ∧ b = 48)) (h2 : ¬ (a = k0 ∧ b = 50)) (hS : S.1 a b = S0.1 a b) : zwl (fX12_ends_b35 T k0 x1 x3 x4 s0 s1 s2 S) (fun q0 => q0.2.1 a b = S0.1 a b) := by
  unfold fX12_ends_b35
  refine zwl_sIf h0 hS (fun S6 e1 => ?_)
  refine zwl_b (wI_X12_comes  e1) (fun r7 S9 e2 => ?_)
  refine zwl_i ?_ ?_
  · refine zwl_sIf h1 e2 (fun S11 e3 => ?_)
    exact zwl_r e3
  · refine zwl_sIf h2 e2 (fun S12 e4 => ?_)
    exact zwl_r e4
set_option maxHeartbeats 40000 in
set_option maxRecDepth 100000 in
theorem wI_X12_ends {T : zT} {k0 : Nat} {x1 : Int32} {x2 : Int32} {S S0 : zS} {a b : Nat} (h0 : ¬ (a = k0 ∧ b = 48)) (h1 : ¬ (a = k0 ∧ b = 50)) (hS : S.1 a b = S0.1 a b) : zwl (fX12_ends T k0 x1 x2 S) (fun q0 => q0.2.1 a b = S0.1 a b) := by
  unfold fX12_ends
  refine zwl_t (fun r1 => ?_)
  refine zwl_t (fun r3 => ?_)
  refine zwl_i ?_ ?_
  · exact (wI_X12_ends_b35 h0 h0 h1 hS)
  · refine zwl_b (wI_X12_comes  hS) (fun r13 S15 e1 => ?_)
    exact (wI_X12_ends_b35 h0 h0 h1 e1)
set_option maxHeartbeats 40000 in
set_option maxRecDepth 100000 in
theorem wI_X12_leads_b215 {T : zT} {s0 : Int32} {S S0 : zS} {a b : Nat}  (hS : S.1 a b = S0.1 a b) : zwl (fX12_leads_b215 T s0 S) (fun q0 => q0.2.1 a b = S0.1 a b) := by
  unfold fX12_leads_b215
  exact zwl_r hS
set_option maxHeartbeats 40000 in
set_option maxRecDepth 100000 in
theorem wI_X12_leads_b88 {T : zT} {k0 : Nat} {x2 : Int32} {x3 : Int32} {x4 : Int32} {s0 : Int32} {s1 : Int32} {S S0 : zS} {a b : Nat}  (hS : S.1 a b = S0.1 a b) : zwl (fX12_leads_b88 T k0 x2 x3 x4 s0 s1 S) (fun q0 => q0.2.1 a b = S0.1 a b) := by
  unfold fX12_leads_b88
  refine zwl_v (fun u5 => ?_)
  refine zwl_t (fun e12 => ?_)
  refine zwl_i ?_ ?_
  · refine zwl_t (fun r14 => ?_)
    refine zwl_t (fun r16 => ?_)
    refine zwl_v (fun u18 => ?_)
    refine zwl_b (wI_X12_comes  hS) (fun r19 S21 e1 => ?_)
    refine zwl_v (fun u22 => ?_)
    refine zwl_b (wI_X12_comes  e1) (fun r23 S25 e2 => ?_)
    refine zwl_i ?_ ?_
    · exact (wI_X12_leads_b215  e2)
    · exact (wI_X12_leads_b215  e2)
  · exact zwl_r hS
set_option maxHeartbeats 40000 in
set_option maxRecDepth 100000 in
theorem wI_X12_leads_b61 {T : zT} {k0 : Nat} {x2 : Int32} {x3 : Int32} {x4 : Int32} {s0 : Int32} {s1 : Int32} {S S0 : zS} {a b : Nat}  (hS : S.1 a b = S0.1 a b) : zwl (fX12_leads_b61 T k0 x2 x3 x4 s0 s1 S) (fun q0 => q0.2.1 a b = S0.1 a b) := by
  unfold fX12_leads_b61
  refine zwl_v (fun u3 => ?_)
  refine zwl_i ?_ ?_
  · refine zwl_g ?_
    exact (wI_X12_leads_b88  hS)
  · exact (wI_X12_leads_b88  hS)
set_option maxHeartbeats 40000 in
set_option maxRecDepth 100000 in
theorem wI_X12_leads_b40 {T : zT} {k0 : Nat} {x2 : Int32} {x3 : Int32} {x4 : Int32} {x5 : Int32} {S S0 : zS} {a b : Nat}  (hS : S.1 a b = S0.1 a b) : zwl (fX12_leads_b40 T k0 x2 x3 x4 x5 S) (fun q0 => q0.2.1 a b = S0.1 a b) := by
  unfold fX12_leads_b40
  refine zwl_i ?_ ?_
  · refine zwl_g ?_
    exact (wI_X12_leads_b61  hS)
  · exact (wI_X12_leads_b61  hS)
set_option maxHeartbeats 40000 in
set_option maxRecDepth 100000 in
theorem wI_X12_leads {T : zT} {k0 : Nat} {x1 : Int32} {x2 : Int32} {x3 : Int32} {x4 : Int32} {S S0 : zS} {a b : Nat}  (hS : S.1 a b = S0.1 a b) : zwl (fX12_leads T k0 x1 x2 x3 x4 S) (fun q0 => q0.2.1 a b = S0.1 a b) := by
  unfold fX12_leads
  refine zwl_i ?_ ?_
  · exact (wI_X12_leads_b40  hS)
  · refine zwl_g ?_
    refine zwl_i ?_ ?_
    · refine zwl_g ?_
      refine zwl_v (fun u34 => ?_)
      refine zwl_i ?_ ?_
      · exact (wI_X12_leads_b40  hS)
      · exact zwl_r hS
    · exact (wI_X12_leads_b40  hS)
set_option maxHeartbeats 40000 in
set_option maxRecDepth 100000 in
theorem wI_X12_likesIt_b267 {T : zT} {k0 : Nat} {x10 : Int32} {x11 : Int32} {S S0 : zS} {a b : Nat}  (hS : S.1 a b = S0.1 a b) : zwl (fX12_likesIt_b267 T k0 x10 x11 S) (Sum.elim (fun q1 => q1.2.1 a b = S0.1 a b) (Sum.elim (fun q2 => q2.1 a b = S0.1 a b) (fun q2 => q2.2.1 a b = S0.1 a b))) := by
  unfold fX12_likesIt_b267
  refine zwl_v (fun u45 => ?_)
  exact zwl_r hS
set_option maxHeartbeats 40000 in
set_option maxRecDepth 100000 in
theorem wI_X12_likesIt_l176 {T : zT} {k0 : Nat} {x10 : Int32} {x11 : Int32} {S S0 : zS} {a b : Nat}  (hS : S.1 a b = S0.1 a b) : zwl (fX12_likesIt_l176 T k0 x10 x11 S) (Sum.elim (fun q1 => q1.2.1 a b = S0.1 a b) (Sum.elim (fun q2 => q2.1 a b = S0.1 a b) (fun q2 => q2.2.1 a b = S0.1 a b))) := by
  unfold fX12_likesIt_l176
  refine zwl_g ?_
  refine zwl_i ?_ ?_
  · exact zwl_r hS
  · refine zwl_g ?_
    refine zwl_i ?_ ?_
    · refine zwl_g ?_
      refine zwl_g ?_
      refine zwl_i ?_ ?_
      · exact zwl_r hS
      · refine zwl_g ?_
        refine zwl_g ?_
        refine zwl_b (wI_X12_answer  hS) (fun r51 S53 e1 => ?_)
        refine zwl_i ?_ ?_
        · exact zwl_r e1
        · exact (wI_X12_likesIt_b267  e1)
    · exact (wI_X12_likesIt_b267  hS)
set_option maxHeartbeats 40000 in
set_option maxRecDepth 100000 in
theorem wI_X12_likesIt_b246 {T : zT} {k0 : Nat} {x10 : Int32} {x11 : Int32} {S S0 : zS} {a b : Nat}  (hS : S.1 a b = S0.1 a b) : zwl (fX12_likesIt_b246 T k0 x10 x11 S) (fun q0 => q0.2.1 a b = S0.1 a b) := by
  unfold fX12_likesIt_b246
  refine zwl_g ?_
  refine zwl_g ?_
  refine zwl_b (wI_X12_answer  hS) (fun r58 S60 e1 => ?_)
  exact zwl_r e1
set_option maxHeartbeats 40000 in
set_option maxRecDepth 100000 in
theorem wI_X12_likesIt_b97 {T : zT} {k0 : Nat} {x1 : Int32} {x2 : Int32} {x3 : Int32} {x4 : Int32} {x5 : Int32} {x6 : Int32} {x9 : Int32} {s0 : Int64} {s1 : Int32} {s2 : Nat} {m2 : Nat} {S S0 : zS} {a b : Nat}  (hS : S.1 a b = S0.1 a b) : zwl (fX12_likesIt_b97 T k0 x1 x2 x3 x4 x5 x6 x9 s0 s1 s2 m2 S) (fun q0 => q0.2.1 a b = S0.1 a b) := by
  unfold fX12_likesIt_b97
  refine zwl_g ?_
  refine zwl_sIn hS (fun S21 e1 => ?_)
  refine zwl_g ?_
  refine zwl_sIn e1 (fun S23 e2 => ?_)
  refine zwl_g ?_
  refine zwl_g ?_
  refine zwl_sIn e2 (fun S26 e3 => ?_)
  refine zwl_g ?_
  refine zwl_sIn e3 (fun S28 e4 => ?_)
  refine zwl_g ?_
  refine zwl_sIn e4 (fun S30 e5 => ?_)
  refine zwl_t (fun r31 => ?_)
  refine zwl_g ?_
  refine zwl_sIn e5 (fun S34 e6 => ?_)
  refine zwl_t (fun r35 => ?_)
  refine zwl_g ?_
  refine zwl_sIn e6 (fun S38 e7 => ?_)
  refine zwl_v (fun u39 => ?_)
  refine zwl_v (fun u40 => ?_)
  refine zwl_b1 (zwl_lp (I := (fun q0 => q0.2.1 a b = S0.1 a b)) (Q := (Sum.elim (fun q1 => q1.1 a b = S0.1 a b) (fun q1 => q1.2.1 a b = S0.1 a b))) (fun a e10 => (wI_X12_likesIt_l176  e10)) e7) (fun e55 e8 => ?_)
  refine zwl_m e8 (fun e55_0 e11 => ?_) (fun e55_1 e12 => ?_)
  · exact zwl_r e11
  · exact (wI_X12_likesIt_b246  e12)
set_option maxHeartbeats 40000 in
set_option maxRecDepth 100000 in
theorem wI_X12_likesIt {T : zT} {k0 : Nat} {x1 : Int32} {x2 : Int32} {x3 : Int32} {x4 : Int32} {x5 : Int32} {x6 : Int32} {S S0 : zS} {a b : Nat}  (hS : S.1 a b = S0.1 a b) : zwl (fX12_likesIt T k0 x1 x2 x3 x4 x5 x6 S) (fun q0 => q0.2.1 a b = S0.1 a b) := by
  unfold fX12_likesIt
  refine zwl_v (fun u1 => ?_)
  refine zwl_v (fun u2 => ?_)
  refine zwl_b (wI_X12_comes  hS) (fun r3 S5 e1 => ?_)
  refine zwl_b (wI_X12_comes  e1) (fun r6 S8 e2 => ?_)
  refine zwl_v (fun u9 => ?_)
  refine zwl_t (fun r10 => ?_)
  refine zwl_g ?_
  refine zwl_sIn e2 (fun S13 e3 => ?_)
  refine zwl_g ?_
  refine zwl_g ?_
  refine zwl_sIn e3 (fun S16 e4 => ?_)
  refine zwl_g ?_
  refine zwl_i ?_ ?_
  · exact (wI_X12_likesIt_b97  e4)
  · refine zwl_g ?_
    exact (wI_X12_likesIt_b97  e4)
set_option maxHeartbeats 40000 in
set_option maxRecDepth 100000 in
theorem wI_X12_most_b24 {T : zT} {S S0 : zS} {a b : Nat}  (hS : S.1 a b = S0.1 a b) : zwl (fX12_most_b24 T S) (fun q0 => q0.2.1 a b = S0.1 a b) := by
  unfold fX12_most_b24
  exact zwl_r hS
set_option maxHeartbeats 40000 in
set_option maxRecDepth 100000 in
theorem wI_X12_most_b101 {T : zT} {k0 : Nat} {x1 : Int32} {x2 : Int32} {x3 : Int32} {x4 : Int32} {x5 : Int32} {S S0 : zS} {a b : Nat}  (hS : S.1 a b = S0.1 a b) : zwl (fX12_most_b101 T k0 x1 x2 x3 x4 x5 S) (Sum.elim (fun q1 => q1.2.2.2.1 a b = S0.1 a b) (fun q1 => q1.2.1 a b = S0.1 a b)) := by
  unfold fX12_most_b101
  refine zwl_v (fun u15 => ?_)
  exact zwl_r hS
set_option maxHeartbeats 40000 in
set_option maxRecDepth 100000 in
theorem wI_X12_most_b94 {T : zT} {k0 : Nat} {x1 : Int32} {x2 : Int32} {x5 : Int32} {x6 : Int32} {S S0 : zS} {a b : Nat}  (hS : S.1 a b = S0.1 a b) : zwl (fX12_most_b94 T k0 x1 x2 x5 x6 S) (Sum.elim (fun q1 => q1.2.2.2.1 a b = S0.1 a b) (fun q1 => q1.2.1 a b = S0.1 a b)) := by
  unfold fX12_most_b94
  exact (wI_X12_most_b101  hS)
set_option maxHeartbeats 40000 in
set_option maxRecDepth 100000 in
theorem wI_X12_most_l34 {T : zT} {k0 : Nat} {x1 : Int32} {x2 : Int32} {x3 : Int32} {x4 : Int32} {x5 : Int32} {S S0 : zS} {a b : Nat}  (hS : S.1 a b = S0.1 a b) : zwl (fX12_most_l34 T k0 x1 x2 x3 x4 x5 S) (Sum.elim (fun q1 => q1.2.2.2.1 a b = S0.1 a b) (fun q1 => q1.2.1 a b = S0.1 a b)) := by
  unfold fX12_most_l34
  refine zwl_i ?_ ?_
  · exact zwl_r hS
  · refine zwl_t (fun r12 => ?_)
    refine zwl_i ?_ ?_
    · refine zwl_t (fun r16 => ?_)
      refine zwl_i ?_ ?_
      · refine zwl_t (fun r19 => ?_)
        refine zwl_b (wI_X12_comes  hS) (fun r21 S23 e1 => ?_)
        refine zwl_i ?_ ?_
        · exact (wI_X12_most_b94  e1)
        · refine zwl_i ?_ ?_
          · exact (wI_X12_most_b101  e1)
          · exact (wI_X12_most_b94  e1)
      · exact (wI_X12_most_b101  hS)
    · exact (wI_X12_most_b101  hS)
set_option maxHeartbeats 40000 in
set_option maxRecDepth 100000 in
theorem wI_X12_most {T : zT} {k0 : Nat} {x1 : Int32} {x2 : Int32} {S S0 : zS} {a b : Nat}  (hS : S.1 a b = S0.1 a b) : zwl (fX12_most T k0 x1 x2 S) (fun q0 => q0.2.1 a b = S0.1 a b) := by
  unfold fX12_most
  refine zwl_t (fun r1 => ?_)
  refine zwl_i ?_ ?_
  · exact (wI_X12_most_b24  hS)
  · refine zwl_t (fun r4 => ?_)
    refine zwl_t (fun r6 => ?_)
    refine zwl_t (fun r8 => ?_)
    refine zwl_i ?_ ?_
    · exact (wI_X12_most_b24  hS)
    · refine zwl_b1 (zwl_lp (I := (fun q0 => q0.2.2.2.1 a b = S0.1 a b)) (Q := (fun q0 => q0.2.1 a b = S0.1 a b)) (fun a e3 => (wI_X12_most_l34  e3)) hS) (fun e26 e1 => ?_)
      exact zwl_r e1
set_option maxHeartbeats 40000 in
set_option maxRecDepth 100000 in
theorem wI_X12_pays_b31 {T : zT} {S S0 : zS} {a b : Nat}  (hS : S.1 a b = S0.1 a b) : zwl (fX12_pays_b31 T S) (fun q0 => q0.2.1 a b = S0.1 a b) := by
  unfold fX12_pays_b31
  exact zwl_r hS
set_option maxHeartbeats 40000 in
set_option maxRecDepth 100000 in
theorem wI_X12_pays_l48 {T : zT} {k0 : Nat} {x1 : Int32} {x2 : Int32} {x3 : Int32} {x4 : Int32} {x5 : Int32} {x6 : Int32} {S S0 : zS} {a b : Nat}  (hS : S.1 a b = S0.1 a b) : zwl (fX12_pays_l48 T k0 x1 x2 x3 x4 x5 x6 S) (Sum.elim (fun q1 => q1.2.2.1 a b = S0.1 a b) (Sum.elim (fun q2 => q2.1 a b = S0.1 a b) (fun q2 => q2.2.1 a b = S0.1 a b))) := by
  unfold fX12_pays_l48
  refine zwl_i ?_ ?_
  · exact zwl_r hS
  · refine zwl_t (fun r13 => ?_)
    refine zwl_b (wI_X12_comes  hS) (fun r15 S17 e1 => ?_)
    refine zwl_t (fun r18 => ?_)
    refine zwl_b (wI_X12_comes  e1) (fun r20 S22 e2 => ?_)
    refine zwl_v (fun u23 => ?_)
    refine zwl_t (fun r24 => ?_)
    refine zwl_i ?_ ?_
    · refine zwl_v (fun u27 => ?_)
      exact zwl_r e2
    · exact zwl_r e2
set_option maxHeartbeats 40000 in
set_option maxRecDepth 100000 in
theorem wI_X12_pays {T : zT} {k0 : Nat} {x1 : Int32} {x2 : Int32} {x3 : Int32} {S S0 : zS} {a b : Nat}  (hS : S.1 a b = S0.1 a b) : zwl (fX12_pays T k0 x1 x2 x3 S) (fun q0 => q0.2.1 a b = S0.1 a b) := by
  unfold fX12_pays
  refine zwl_t (fun r1 => ?_)
  refine zwl_i ?_ ?_
  · exact (wI_X12_pays_b31  hS)
  · refine zwl_t (fun r4 => ?_)
    refine zwl_i ?_ ?_
    · exact (wI_X12_pays_b31  hS)
    · refine zwl_i ?_ ?_
      · exact (wI_X12_pays_b31  hS)
      · refine zwl_t (fun r8 => ?_)
        refine zwl_i ?_ ?_
        · exact (wI_X12_pays_b31  hS)
        · refine zwl_v (fun u11 => ?_)
          refine zwl_b1 (zwl_lp (I := (fun q0 => q0.2.2.1 a b = S0.1 a b)) (Q := (Sum.elim (fun q1 => q1.1 a b = S0.1 a b) (fun q1 => q1.2.1 a b = S0.1 a b))) (fun a e3 => (wI_X12_pays_l48  e3)) hS) (fun e28 e1 => ?_)
          refine zwl_m e1 (fun e28_0 e4 => ?_) (fun e28_1 e5 => ?_)
          · exact zwl_r e4
          · exact zwl_r e5
set_option maxHeartbeats 40000 in
set_option maxRecDepth 100000 in
theorem wI_X4_liveByRow_b82 {T : zT} {k0 : Nat} {k1 : Nat} {l2 : Int64} {x4 : Int32} {x5 : Int32} {S S0 : zS} {a b : Nat}  (hS : S.1 a b = S0.1 a b) : zwl (fX4_liveByRow_b82 T k0 k1 l2 x4 x5 S) (Sum.elim (fun q1 => q1.2.2.1 a b = S0.1 a b) (Sum.elim (fun q2 => q2.2.1 a b = S0.1 a b) (fun q2 => q2.1 a b = S0.1 a b))) := by
  unfold fX4_liveByRow_b82
  refine zwl_t (fun r15 => ?_)
  refine zwl_i ?_ ?_
  · exact zwl_r hS
  · refine zwl_v (fun u18 => ?_)
    exact zwl_r hS
set_option maxHeartbeats 40000 in
set_option maxRecDepth 100000 in
theorem wI_X4_liveByRow_b79 {T : zT} {k0 : Nat} {k1 : Nat} {l2 : Int64} {x4 : Int32} {x5 : Int32} {s0 : Int32} {s1 : Int32} {s2 : Nat} {S S0 : zS} {a b : Nat} (h0 : ¬ (a = s2 ∧ b = 3)) (h1 : ¬ (a = s2 ∧ b = 8)) (h2 : ¬ a = zr T s2 9) (h3 : ¬ a = zr T s2 10) (h4 : ¬ (a = s2 ∧ b = 7)) (hS : S.1 a b = S0.1 a b) : zwl (fX4_liveByRow_b79 T k0 k1 l2 x4 x5 s0 s1 s2 S) (Sum.elim (fun q1 => q1.2.2.1 a b = S0.1 a b) (Sum.elim (fun q2 => q2.2.1 a b = S0.1 a b) (fun q2 => q2.1 a b = S0.1 a b))) := by
  unfold fX4_liveByRow_b79
  refine zwl_b (wI_X4_endWeek h0 h1 h2 h3 h4 hS) (fun r1 S22 e2 => ?_)
  exact (wI_X4_liveByRow_b82  e2)
set_option maxHeartbeats 40000 in
set_option maxRecDepth 100000 in
theorem wI_X4_liveByRow_b53 {T : zT} {k0 : Nat} {k1 : Nat} {l2 : Int64} {x4 : Int32} {x5 : Int32} {S S0 : zS} {a b : Nat} (h0 : ¬ (a = k0 ∧ b = 3)) (h1 : ¬ (a = k0 ∧ b = 8)) (h2 : ¬ a = zr T k0 9) (h3 : ¬ a = zr T k0 10) (h4 : ¬ (a = k0 ∧ b = 7)) (hS : S.1 a b = S0.1 a b) : zwl (fX4_liveByRow_b53 T k0 k1 l2 x4 x5 S) (Sum.elim (fun q1 => q1.2.2.1 a b = S0.1 a b) (Sum.elim (fun q2 => q2.2.1 a b = S0.1 a b) (fun q2 => q2.1 a b = S0.1 a b))) := by
  unfold fX4_liveByRow_b53
  refine zwl_t (fun r12 => ?_)
  refine zwl_i ?_ ?_
  · exact (wI_X4_liveByRow_b82  hS)
  · refine zwl_i ?_ ?_
    · exact (wI_X4_liveByRow_b79 h0 h1 h2 h3 h4 hS)
    · exact (wI_X4_liveByRow_b79 h0 h1 h2 h3 h4 hS)
set_option maxHeartbeats 40000 in
set_option maxRecDepth 100000 in
theorem wI_X4_liveByRow_l10 {T : zT} {k0 : Nat} {k1 : Nat} {l2 : Int64} {x4 : Int32} {x5 : Int32} {S S0 : zS} {a b : Nat} (h0 : ¬ (a = k0 ∧ b = 5)) (h1 : ¬ (a = k0 ∧ b = 3)) (h2 : ¬ (a = k0 ∧ b = 7)) (h3 : ¬ (a = k0 ∧ b = 8)) (h4 : ¬ a = zr T k0 9) (h5 : ¬ a = zr T k0 10) (h6 : ¬ (a = k0 ∧ b = 4)) (h7 : ¬ a = zr T k0 11) (h8 : ¬ (a = k0 ∧ b = 15)) (h9 : ¬ a = zr T k0 12) (h10 : ¬ a = zr T k0 13) (h11 : ¬ a = zr T k0 14) (h12 : ¬ (a = k0 ∧ b = 16)) (h13 : ¬ (a = k0 ∧ b = 6)) (hS : S.1 a b = S0.1 a b) : zwl (fX4_liveByRow_l10 T k0 k1 l2 x4 x5 S) (Sum.elim (fun q1 => q1.2.2.1 a b = S0.1 a b) (Sum.elim (fun q2 => q2.2.1 a b = S0.1 a b) (fun q2 => q2.1 a b = S0.1 a b))) := by
  unfold fX4_liveByRow_l10
  refine zwl_i ?_ ?_
  · exact zwl_r hS
  · refine zwl_i ?_ ?_
    · exact zwl_r hS
    · refine zwl_b (wI_X4_startWeek h0 h1 h2 hS) (fun r1 S8 e2 => ?_)
      refine zwl_t (fun r9 => ?_)
      refine zwl_i ?_ ?_
      · exact (wI_X4_liveByRow_b53 h1 h3 h4 h5 h2 e2)
      · refine zwl_b (wI_X4_doActs h1 h6 h7 h8 h9 h10 h11 h0 h12 h13 e2) (fun r23 S25 e3 => ?_)
        exact (wI_X4_liveByRow_b53 h1 h3 h4 h5 h2 e3)
set_option maxHeartbeats 40000 in
set_option maxRecDepth 100000 in
theorem wI_X4_liveByRow_b111 {T : zT} {S S0 : zS} {a b : Nat}  (hS : S.1 a b = S0.1 a b) : zwl (fX4_liveByRow_b111 T S) (fun q0 => q0.2.1 a b = S0.1 a b) := by
  unfold fX4_liveByRow_b111
  exact zwl_r hS
set_option maxHeartbeats 40000 in
set_option maxRecDepth 100000 in
theorem wI_X4_liveByRow_b96 {T : zT} {k0 : Nat} {k1 : Nat} {x4 : Int32} {S S0 : zS} {a b : Nat} (h0 : ¬ (a = k0 ∧ b = 6)) (hS : S.1 a b = S0.1 a b) : zwl (fX4_liveByRow_b96 T k0 k1 x4 S) (fun q0 => q0.2.1 a b = S0.1 a b) := by
  unfold fX4_liveByRow_b96
  refine zwl_i ?_ ?_
  · exact (wI_X4_liveByRow_b111  hS)
  · refine zwl_sIf h0 hS (fun S28 e1 => ?_)
    exact (wI_X4_liveByRow_b111  e1)
set_option maxHeartbeats 40000 in
set_option maxRecDepth 100000 in
theorem wI_X4_liveByRow {T : zT} {k0 : Nat} {k1 : Nat} {l2 : Int64} {S S0 : zS} {a b : Nat} (h0 : ¬ (a = k0 ∧ b = 3)) (h1 : ¬ (a = k0 ∧ b = 4)) (h2 : ¬ (a = k0 ∧ b = 5)) (h3 : ¬ (a = k0 ∧ b = 6)) (h4 : ¬ (a = k0 ∧ b = 7)) (h5 : ¬ (a = k0 ∧ b = 8)) (h6 : ¬ (a = k0 ∧ b = 15)) (h7 : ¬ (a = k0 ∧ b = 16)) (h8 : ¬ a = zr T k0 12) (h9 : ¬ a = zr T k0 13) (h10 : ¬ a = zr T k0 14) (h11 : ¬ a = zr T k0 11) (h12 : ¬ a = zr T k0 9) (h13 : ¬ a = zr T k0 10) (hS : S.1 a b = S0.1 a b) : zwl (fX4_liveByRow T k0 k1 l2 S) (fun q0 => q0.2.1 a b = S0.1 a b) := by
  unfold fX4_liveByRow
  refine zwl_b (wI_X4_begin h0 h1 h2 h3 h4 h5 h6 h7 h8 h9 h10 h11 hS) (fun r1 S3 e2 => ?_)
  refine zwl_b1 (zwl_lp (I := (fun q0 => q0.2.2.1 a b = S0.1 a b)) (Q := (Sum.elim (fun q1 => q1.2.1 a b = S0.1 a b) (fun q1 => q1.1 a b = S0.1 a b))) (fun a e5 => (wI_X4_liveByRow_l10 h2 h0 h4 h5 h12 h13 h1 h11 h6 h8 h9 h10 h7 h3 e5)) e2) (fun e26 e3 => ?_)
  refine zwl_m e3 (fun e26_0 e6 => ?_) (fun e26_1 e7 => ?_)
  · exact (wI_X4_liveByRow_b96 h3 e6)
  · exact zwl_r e7
set_option maxHeartbeats 40000 in
set_option maxRecDepth 100000 in
theorem wI_X4_likedMost_b68 {T : zT} {k0 : Nat} {k1 : Nat} {x2 : Int32} {x3 : Int32} {l4 : Int64} {x6 : Int32} {S S0 : zS} {a b : Nat}  (hS : S.1 a b = S0.1 a b) : zwl (fX4_likedMost_b68 T k0 k1 x2 x3 l4 x6 S) (Sum.elim (fun q1 => q1.2.2.2.1 a b = S0.1 a b) (fun q1 => q1.2.1 a b = S0.1 a b)) := by
  unfold fX4_likedMost_b68
  refine zwl_v (fun u5 => ?_)
  exact zwl_r hS
set_option maxHeartbeats 40000 in
set_option maxRecDepth 100000 in
theorem wI_X4_likedMost_l8 {T : zT} {k0 : Nat} {k1 : Nat} {x2 : Int32} {x3 : Int32} {l4 : Int64} {x6 : Int32} {S S0 : zS} {a b : Nat}  (hS : S.1 a b = S0.1 a b) : zwl (fX4_likedMost_l8 T k0 k1 x2 x3 l4 x6 S) (Sum.elim (fun q1 => q1.2.2.2.1 a b = S0.1 a b) (fun q1 => q1.2.1 a b = S0.1 a b)) := by
  unfold fX4_likedMost_l8
  refine zwl_i ?_ ?_
  · exact zwl_r hS
  · refine zwl_t (fun r2 => ?_)
    refine zwl_i ?_ ?_
    · exact (wI_X4_likedMost_b68  hS)
    · refine zwl_t (fun r6 => ?_)
      refine zwl_i ?_ ?_
      · exact (wI_X4_likedMost_b68  hS)
      · refine zwl_b (wI_X4_liking  hS) (fun r9 S11 e1 => ?_)
        refine zwl_i ?_ ?_
        · exact (wI_X4_likedMost_b68  e1)
        · exact (wI_X4_likedMost_b68  e1)
set_option maxHeartbeats 40000 in
set_option maxRecDepth 100000 in
theorem wI_X4_likedMost {T : zT} {k0 : Nat} {k1 : Nat} {x2 : Int32} {S S0 : zS} {a b : Nat}  (hS : S.1 a b = S0.1 a b) : zwl (fX4_likedMost T k0 k1 x2 S) (fun q0 => q0.2.1 a b = S0.1 a b) := by
  unfold fX4_likedMost
  refine zwl_b1 (zwl_lp (I := (fun q0 => q0.2.2.2.1 a b = S0.1 a b)) (Q := (fun q0 => q0.2.1 a b = S0.1 a b)) (fun a e3 => (wI_X4_likedMost_l8  e3)) hS) (fun e13 e1 => ?_)
  exact zwl_r e1
set_option maxHeartbeats 40000 in
set_option maxRecDepth 100000 in
theorem wI_X5_prepare_l68 {T : zT} {k0 : Nat} {x1 : Int32} {S S0 : zS} {a b : Nat} (h0 : ¬ a = zr T k0 11) (h1 : ¬ a = zr T k0 8) (h2 : ¬ (a = k0 ∧ b = 5)) (h3 : ¬ (a = k0 ∧ b = 6)) (hS : S.1 a b = S0.1 a b) : zwl (fX5_prepare_l68 T k0 x1 S) (Sum.elim (fun q1 => q1.2.1 a b = S0.1 a b) (fun q1 => q1.1 a b = S0.1 a b)) := by
  unfold fX5_prepare_l68
  refine zwl_i ?_ ?_
  · exact zwl_r hS
  · refine zwl_i ?_ ?_
    · exact zwl_r hS
    · refine zwl_b (wI_X5_pass h0 hS) (fun r1 S17 e2 => ?_)
      refine zwl_g ?_
      refine zwl_sIC h1 e2 (fun S19 e3 => ?_)
      refine zwl_b (wI_X5_countStates h2 h3 e3) (fun r4 S22 e5 => ?_)
      refine zwl_v (fun u23 => ?_)
      exact zwl_r e5
set_option maxHeartbeats 40000 in
set_option maxRecDepth 100000 in
theorem wI_X5_prepare_b129 {T : zT} {k0 : Nat} {S S0 : zS} {a b : Nat} (h0 : ¬ (a = k0 ∧ b = 3)) (h1 : ¬ (a = k0 ∧ b = 4)) (h2 : ¬ a = zr T k0 7) (h3 : ¬ (a = k0 ∧ b = 2)) (hS : S.1 a b = S0.1 a b) : zwl (fX5_prepare_b129 T k0 S) (fun q0 => q0.2.1 a b = S0.1 a b) := by
  unfold fX5_prepare_b129
  refine zwl_t (fun r25 => ?_)
  refine zwl_sIf h0 hS (fun S27 e1 => ?_)
  refine zwl_t (fun r28 => ?_)
  refine zwl_sIf h1 e1 (fun S30 e2 => ?_)
  refine zwl_b (wI_X5_tracePlan h2 e2) (fun r3 S33 e4 => ?_)
  refine zwl_sIf h3 e4 (fun S34 e5 => ?_)
  exact zwl_r e5
set_option maxHeartbeats 40000 in
set_option maxRecDepth 100000 in
theorem wI_X5_prepare_b41 {T : zT} {k0 : Nat} {S S0 : zS} {a b : Nat} (h0 : ¬ a = zr T k0 11) (h1 : ¬ (a = k0 ∧ b = 5)) (h2 : ¬ (a = k0 ∧ b = 6)) (h3 : ¬ a = zr T k0 8) (h4 : ¬ (a = k0 ∧ b = 3)) (h5 : ¬ (a = k0 ∧ b = 4)) (h6 : ¬ a = zr T k0 7) (h7 : ¬ (a = k0 ∧ b = 2)) (hS : S.1 a b = S0.1 a b) : zwl (fX5_prepare_b41 T k0 S) (fun q0 => q0.2.1 a b = S0.1 a b) := by
  unfold fX5_prepare_b41
  refine zwl_b (wI_X5_start h0 hS) (fun r1 S10 e2 => ?_)
  refine zwl_sIf h1 e2 (fun S11 e3 => ?_)
  refine zwl_sIf h2 e3 (fun S12 e4 => ?_)
  refine zwl_b1 (zwl_lp (I := (fun q0 => q0.2.1 a b = S0.1 a b)) (Q := (fun q0 => q0.1 a b = S0.1 a b)) (fun a e7 => (wI_X5_prepare_l68 h0 h3 h1 h2 e7)) e4) (fun e24 e5 => ?_)
  exact (wI_X5_prepare_b129 h4 h5 h6 h7 e5)
set_option maxHeartbeats 40000 in
set_option maxRecDepth 100000 in
theorem wI_X5_prepare {T : zT} {k0 : Nat} {S S0 : zS} {a b : Nat} (h0 : ¬ a = zr T k0 13) (h1 : ¬ a = zr T k0 14) (h2 : ¬ a = zr T k0 9) (h3 : ¬ a = zr T k0 11) (h4 : ¬ (a = k0 ∧ b = 5)) (h5 : ¬ (a = k0 ∧ b = 6)) (h6 : ¬ a = zr T k0 8) (h7 : ¬ (a = k0 ∧ b = 3)) (h8 : ¬ (a = k0 ∧ b = 4)) (h9 : ¬ a = zr T k0 7) (h10 : ¬ (a = k0 ∧ b = 2)) (h11 : ¬ a = zr T k0 10) (hS : S.1 a b = S0.1 a b) : zwl (fX5_prepare T k0 S) (fun q0 => q0.2.1 a b = S0.1 a b) := by
  unfold fX5_prepare
  refine zwl_i ?_ ?_
  · refine zwl_b (wI_X5_fillGains h0 h1 h2 hS) (fun r1 S4 e2 => ?_)
    refine zwl_t (fun r5 => ?_)
    refine zwl_i ?_ ?_
    · exact (wI_X5_prepare_b41 h3 h4 h5 h6 h7 h8 h9 h10 e2)
    · refine zwl_b (wI_X5_fillGains h0 h1 h11 e2) (fun r3 S39 e4 => ?_)
      exact (wI_X5_prepare_b41 h3 h4 h5 h6 h7 h8 h9 h10 e4)
  · exact zwl_r hS
set_option maxHeartbeats 40000 in
set_option maxRecDepth 100000 in
theorem wI_X11_likes_b71 {T : zT} {S S0 : zS} {a b : Nat}  (hS : S.1 a b = S0.1 a b) : zwl (fX11_likes_b71 T S) (fun q0 => q0.2.1 a b = S0.1 a b) := by
  unfold fX11_likes_b71
  exact zwl_r hS
set_option maxHeartbeats 40000 in
set_option maxRecDepth 100000 in
theorem wI_X11_likes_b36 {T : zT} {k0 : Nat} {x1 : Int32} {x2 : Int32} {x3 : Int32} {x4 : Int32} {x5 : Int32} {s0 : Int32} {S S0 : zS} {a b : Nat} (h0 : ¬ (a = zr T k0 12 ∧ b = 3)) (h1 : ¬ (a = zr T k0 12 ∧ b = 4)) (h2 : ¬ (a = zr T k0 12 ∧ b = 5)) (h3 : ¬ (a = zr T k0 12 ∧ b = 6)) (h4 : ¬ (a = zr T k0 12 ∧ b = 7)) (h5 : ¬ (a = zr T k0 12 ∧ b = 8)) (h6 : ¬ (a = zr T k0 12 ∧ b = 15)) (h7 : ¬ (a = zr T k0 12 ∧ b = 16)) (h8 : ¬ a = zr T (zr T k0 12) 12) (h9 : ¬ a = zr T (zr T k0 12) 13) (h10 : ¬ a = zr T (zr T k0 12) 14) (h11 : ¬ a = zr T (zr T k0 12) 11) (hS : S.1 a b = S0.1 a b) : zwl (fX11_likes_b36 T k0 x1 x2 x3 x4 x5 s0 S) (fun q0 => q0.2.1 a b = S0.1 a b) := by
  unfold fX11_likes_b36
  refine zwl_i ?_ ?_
  · exact (wI_X11_likes_b71  hS)
  · refine zwl_i ?_ ?_
    · exact (wI_X11_likes_b71  hS)
    · refine zwl_i ?_ ?_
      · exact (wI_X11_likes_b71  hS)
      · refine zwl_i ?_ ?_
        · exact (wI_X11_likes_b71  hS)
        · refine zwl_i ?_ ?_
          · refine zwl_i ?_ ?_
            · refine zwl_b (wI_X4_begin h0 h1 h2 h3 h4 h5 h6 h7 h8 h9 h10 h11 hS) (fun r1 S12 e2 => ?_)
              refine zwl_sIf h1 e2 (fun S13 e3 => ?_)
              refine zwl_sIf h0 e3 (fun S14 e4 => ?_)
              refine zwl_g ?_
              refine zwl_b (wI_X4_liking  e4) (fun r16 S18 e5 => ?_)
              exact zwl_r e5
            · exact zwl_r hS
          · exact (wI_X11_likes_b71  hS)
set_option maxHeartbeats 40000 in
set_option maxRecDepth 100000 in
theorem wI_X11_likes_b35 {T : zT} {k0 : Nat} {x1 : Int32} {x2 : Int32} {x3 : Int32} {x4 : Int32} {x5 : Int32} {S S0 : zS} {a b : Nat} (h0 : ¬ (a = zr T k0 12 ∧ b = 3)) (h1 : ¬ (a = zr T k0 12 ∧ b = 4)) (h2 : ¬ (a = zr T k0 12 ∧ b = 5)) (h3 : ¬ (a = zr T k0 12 ∧ b = 6)) (h4 : ¬ (a = zr T k0 12 ∧ b = 7)) (h5 : ¬ (a = zr T k0 12 ∧ b = 8)) (h6 : ¬ (a = zr T k0 12 ∧ b = 15)) (h7 : ¬ (a = zr T k0 12 ∧ b = 16)) (h8 : ¬ a = zr T (zr T k0 12) 12) (h9 : ¬ a = zr T (zr T k0 12) 13) (h10 : ¬ a = zr T (zr T k0 12) 14) (h11 : ¬ a = zr T (zr T k0 12) 11) (hS : S.1 a b = S0.1 a b) : zwl (fX11_likes_b35 T k0 x1 x2 x3 x4 x5 S) (fun q0 => q0.2.1 a b = S0.1 a b) := by
  unfold fX11_likes_b35
  exact (wI_X11_likes_b36 h0 h1 h2 h3 h4 h5 h6 h7 h8 h9 h10 h11 hS)
set_option maxHeartbeats 40000 in
set_option maxRecDepth 100000 in
theorem wI_X11_likes {T : zT} {k0 : Nat} {x1 : Int32} {x2 : Int32} {x3 : Int32} {x4 : Int32} {x5 : Int32} {S S0 : zS} {a b : Nat} (h0 : ¬ (a = zr T k0 12 ∧ b = 3)) (h1 : ¬ (a = zr T k0 12 ∧ b = 4)) (h2 : ¬ (a = zr T k0 12 ∧ b = 5)) (h3 : ¬ (a = zr T k0 12 ∧ b = 6)) (h4 : ¬ (a = zr T k0 12 ∧ b = 7)) (h5 : ¬ (a = zr T k0 12 ∧ b = 8)) (h6 : ¬ (a = zr T k0 12 ∧ b = 15)) (h7 : ¬ (a = zr T k0 12 ∧ b = 16)) (h8 : ¬ a = zr T (zr T k0 12) 12) (h9 : ¬ a = zr T (zr T k0 12) 13) (h10 : ¬ a = zr T (zr T k0 12) 14) (h11 : ¬ a = zr T (zr T k0 12) 11) (hS : S.1 a b = S0.1 a b) : zwl (fX11_likes T k0 x1 x2 x3 x4 x5 S) (fun q0 => q0.2.1 a b = S0.1 a b) := by
  unfold fX11_likes
  refine zwl_t (fun r1 => ?_)
  refine zwl_i ?_ ?_
  · exact (wI_X11_likes_b35 h0 h1 h2 h3 h4 h5 h6 h7 h8 h9 h10 h11 hS)
  · refine zwl_t (fun r19 => ?_)
    refine zwl_i ?_ ?_
    · exact (wI_X11_likes_b35 h0 h1 h2 h3 h4 h5 h6 h7 h8 h9 h10 h11 hS)
    · refine zwl_t (fun r22 => ?_)
      refine zwl_i ?_ ?_
      · exact (wI_X11_likes_b35 h0 h1 h2 h3 h4 h5 h6 h7 h8 h9 h10 h11 hS)
      · exact (wI_X11_likes_b36 h0 h1 h2 h3 h4 h5 h6 h7 h8 h9 h10 h11 hS)
set_option maxHeartbeats 40000 in
set_option maxRecDepth 100000 in
theorem wI_X12_takes_b27 {T : zT} {x2 : Int32} {s0 : Int32} {s1 : Int32} {s2 : Nat} {S S0 : zS} {a b : Nat} (h0 : ¬ (a = s2 ∧ b = 2)) (hS : S.1 a b = S0.1 a b) : zwl (fX12_takes_b27 T x2 s0 s1 s2 S) (fun q0 => q0.2.1 a b = S0.1 a b) := by
  unfold fX12_takes_b27
  refine zwl_sIf h0 hS (fun S7 e1 => ?_)
  refine zwl_g ?_
  exact zwl_r e1
set_option maxHeartbeats 40000 in
set_option maxRecDepth 100000 in
theorem wI_X12_takes {T : zT} {k0 : Nat} {i1 : Nat} {S S0 : zS} {a b : Nat} (h0 : ¬ (a = k0 ∧ b = 2)) (hS : S.1 a b = S0.1 a b) : zwl (fX12_takes T k0 i1 S) (fun q0 => q0.2.1 a b = S0.1 a b) := by
  unfold fX12_takes
  refine zwl_b (wI_X12_blanks h0 hS) (fun r1 S3 e2 => ?_)
  refine zwl_t (fun r4 => ?_)
  refine zwl_i ?_ ?_
  · exact (wI_X12_takes_b27 h0 e2)
  · exact (wI_X12_takes_b27 h0 e2)
set_option maxHeartbeats 40000 in
set_option maxRecDepth 100000 in
theorem wI_X12_value_b63 {T : zT} {k0 : Nat} {x1 : Int32} {x2 : Int32} {S S0 : zS} {a b : Nat} (h0 : ¬ (a = k0 ∧ b = 3)) (h1 : ¬ (a = k0 ∧ b = 8)) (h2 : ¬ (a = k0 ∧ b = 2)) (h3 : ¬ a = zr T k0 12) (h4 : ¬ a = zr T k0 13) (h5 : ¬ (a = k0 ∧ b = 6)) (hS : S.1 a b = S0.1 a b) : zwl (fX12_value_b63 T k0 x1 x2 S) (fun q0 => q0.2.1 a b = S0.1 a b) := by
  unfold fX12_value_b63
  refine zwl_i ?_ ?_
  · refine zwl_b (wI_X12_fails h0 hS) (fun r1 S28 e2 => ?_)
    exact zwl_r e2
  · refine zwl_b (wI_X12_isCounted h0 h1 hS) (fun r3 S19 e4 => ?_)
    refine zwl_t (fun r20 => ?_)
    refine zwl_sIf h2 e4 (fun S22 e5 => ?_)
    refine zwl_b (wI_X12_entry h3 h4 h5 e5) (fun r6 S25 e7 => ?_)
    exact zwl_r e7
set_option maxHeartbeats 40000 in
set_option maxRecDepth 100000 in
theorem wI_X12_value {T : zT} {k0 : Nat} {S S0 : zS} {a b : Nat} (h0 : ¬ (a = k0 ∧ b = 2)) (h1 : ¬ (a = k0 ∧ b = 3)) (h2 : ¬ (a = k0 ∧ b = 8)) (h3 : ¬ a = zr T k0 12) (h4 : ¬ a = zr T k0 13) (h5 : ¬ (a = k0 ∧ b = 6)) (hS : S.1 a b = S0.1 a b) : zwl (fX12_value T k0 S) (fun q0 => q0.2.1 a b = S0.1 a b) := by
  unfold fX12_value
  refine zwl_b (wI_X12_blanks h0 hS) (fun r1 S3 e2 => ?_)
  refine zwl_v (fun u4 => ?_)
  refine zwl_t (fun r5 => ?_)
  refine zwl_i ?_ ?_
  · refine zwl_t (fun e15 => ?_)
    exact (wI_X12_value_b63 h1 h2 h0 h3 h4 h5 e2)
  · refine zwl_b (wI_X12_digits h1 h0 e2) (fun r31 S33 e3 => ?_)
    refine zwl_b (wI_X12_isCounted h1 h2 e3) (fun r4 S36 e5 => ?_)
    refine zwl_b (wI_X12_entry h3 h4 h5 e5) (fun r6 S39 e7 => ?_)
    exact zwl_r e7
set_option maxHeartbeats 40000 in
set_option maxRecDepth 100000 in
theorem wI_X12_thingClause_b218 {T : zT} {k0 : Nat} {x2 : Int32} {x3 : Int32} {s0 : Int32} {S S0 : zS} {a b : Nat}  (hS : S.1 a b = S0.1 a b) : zwl (fX12_thingClause_b218 T k0 x2 x3 s0 S) (Sum.elim (fun q1 => q1.2.2.1 a b = S0.1 a b) (fun q1 => q1.1 a b = S0.1 a b)) := by
  unfold fX12_thingClause_b218
  exact zwl_r hS
set_option maxHeartbeats 40000 in
set_option maxRecDepth 100000 in
theorem wI_X12_thingClause_b217 {T : zT} {k0 : Nat} {x2 : Int32} {x3 : Int32} {S S0 : zS} {a b : Nat}  (hS : S.1 a b = S0.1 a b) : zwl (fX12_thingClause_b217 T k0 x2 x3 S) (Sum.elim (fun q1 => q1.2.2.1 a b = S0.1 a b) (fun q1 => q1.1 a b = S0.1 a b)) := by
  unfold fX12_thingClause_b217
  exact (wI_X12_thingClause_b218  hS)
set_option maxHeartbeats 40000 in
set_option maxRecDepth 100000 in
theorem wI_X12_thingClause_b201 {T : zT} {k0 : Nat} {x2 : Int32} {x3 : Int32} {x4 : Int32} {S S0 : zS} {a b : Nat}  (hS : S.1 a b = S0.1 a b) : zwl (fX12_thingClause_b201 T k0 x2 x3 x4 S) (Sum.elim (fun q1 => q1.2.2.1 a b = S0.1 a b) (fun q1 => q1.1 a b = S0.1 a b)) := by
  unfold fX12_thingClause_b201
  refine zwl_i ?_ ?_
  · exact (wI_X12_thingClause_b217  hS)
  · refine zwl_i ?_ ?_
    · exact (wI_X12_thingClause_b218  hS)
    · exact (wI_X12_thingClause_b217  hS)
set_option maxHeartbeats 40000 in
set_option maxRecDepth 100000 in
theorem wI_X12_thingClause_b182 {T : zT} {k0 : Nat} {x2 : Int32} {x3 : Int32} {x4 : Int32} {x5 : Int32} {S S0 : zS} {a b : Nat} (h0 : ¬ (a = k0 ∧ b = 2)) (h1 : ¬ (a = k0 ∧ b = 3)) (h2 : ¬ a = zr T k0 25) (h3 : ¬ a = zr T k0 26) (h4 : ¬ a = zr T k0 27) (h5 : ¬ a = zr T k0 28) (hS : S.1 a b = S0.1 a b) : zwl (fX12_thingClause_b182 T k0 x2 x3 x4 x5 S) (Sum.elim (fun q1 => q1.2.2.1 a b = S0.1 a b) (fun q1 => q1.1 a b = S0.1 a b)) := by
  unfold fX12_thingClause_b182
  refine zwl_i ?_ ?_
  · exact (wI_X12_thingClause_b201  hS)
  · refine zwl_v (fun u39 => ?_)
    refine zwl_b (wI_X12_extra h0 h1 h2 h3 h4 h5 hS) (fun r1 S42 e2 => ?_)
    exact (wI_X12_thingClause_b201  e2)
set_option maxHeartbeats 40000 in
set_option maxRecDepth 100000 in
theorem wI_X12_thingClause_b153 {T : zT} {k0 : Nat} {x2 : Int32} {x3 : Int32} {x5 : Int32} {s0 : Int32} {S S0 : zS} {a b : Nat} (h0 : ¬ (a = k0 ∧ b = 2)) (h1 : ¬ (a = k0 ∧ b = 3)) (h2 : ¬ a = zr T k0 25) (h3 : ¬ a = zr T k0 26) (h4 : ¬ a = zr T k0 27) (h5 : ¬ a = zr T k0 28) (hS : S.1 a b = S0.1 a b) : zwl (fX12_thingClause_b153 T k0 x2 x3 x5 s0 S) (Sum.elim (fun q1 => q1.2.2.1 a b = S0.1 a b) (fun q1 => q1.1 a b = S0.1 a b)) := by
  unfold fX12_thingClause_b153
  refine zwl_i ?_ ?_
  · exact (wI_X12_thingClause_b182 h0 h1 h2 h3 h4 h5 hS)
  · refine zwl_i ?_ ?_
    · refine zwl_b (wI_X12_fails h1 hS) (fun r1 S46 e2 => ?_)
      exact (wI_X12_thingClause_b201  e2)
    · exact (wI_X12_thingClause_b182 h0 h1 h2 h3 h4 h5 hS)
set_option maxHeartbeats 40000 in
set_option maxRecDepth 100000 in
theorem wI_X12_thingClause_b142 {T : zT} {k0 : Nat} {x2 : Int32} {x3 : Int32} {x5 : Int32} {S S0 : zS} {a b : Nat} (h0 : ¬ (a = k0 ∧ b = 2)) (h1 : ¬ (a = k0 ∧ b = 3)) (h2 : ¬ a = zr T k0 25) (h3 : ¬ a = zr T k0 26) (h4 : ¬ a = zr T k0 27) (h5 : ¬ a = zr T k0 28) (hS : S.1 a b = S0.1 a b) : zwl (fX12_thingClause_b142 T k0 x2 x3 x5 S) (Sum.elim (fun q1 => q1.2.2.1 a b = S0.1 a b) (fun q1 => q1.1 a b = S0.1 a b)) := by
  unfold fX12_thingClause_b142
  refine zwl_i ?_ ?_
  · exact (wI_X12_thingClause_b153 h0 h1 h2 h3 h4 h5 hS)
  · exact (wI_X12_thingClause_b153 h0 h1 h2 h3 h4 h5 hS)
set_option maxHeartbeats 40000 in
set_option maxRecDepth 100000 in
theorem wI_X12_thingClause_l106 {T : zT} {k0 : Nat} {x2 : Int32} {x3 : Int32} {x4 : Int32} {S S0 : zS} {a b : Nat} (h0 : ¬ (a = k0 ∧ b = 2)) (h1 : ¬ (a = k0 ∧ b = 3)) (h2 : ¬ a = zr T k0 25) (h3 : ¬ a = zr T k0 26) (h4 : ¬ a = zr T k0 27) (h5 : ¬ a = zr T k0 28) (hS : S.1 a b = S0.1 a b) : zwl (fX12_thingClause_l106 T k0 x2 x3 x4 S) (Sum.elim (fun q1 => q1.2.2.1 a b = S0.1 a b) (fun q1 => q1.1 a b = S0.1 a b)) := by
  unfold fX12_thingClause_l106
  refine zwl_i ?_ ?_
  · exact zwl_r hS
  · refine zwl_b (wI_X12_blanks h0 hS) (fun r1 S25 e2 => ?_)
    refine zwl_t (fun e33 => ?_)
    exact (wI_X12_thingClause_b142 h0 h1 h2 h3 h4 h5 e2)
set_option maxHeartbeats 40000 in
set_option maxRecDepth 100000 in
theorem wI_X12_thingClause_b104 {T : zT} {k0 : Nat} {x2 : Int32} {x3 : Int32} {s0 : Int32} {S S0 : zS} {a b : Nat} (h0 : ¬ (a = k0 ∧ b = 2)) (h1 : ¬ (a = k0 ∧ b = 3)) (h2 : ¬ a = zr T k0 25) (h3 : ¬ a = zr T k0 26) (h4 : ¬ a = zr T k0 27) (h5 : ¬ a = zr T k0 28) (hS : S.1 a b = S0.1 a b) : zwl (fX12_thingClause_b104 T k0 x2 x3 s0 S) (fun q0 => q0.2.1 a b = S0.1 a b) := by
  unfold fX12_thingClause_b104
  refine zwl_b1 (zwl_lp (I := (fun q0 => q0.2.2.1 a b = S0.1 a b)) (Q := (fun q0 => q0.1 a b = S0.1 a b)) (fun a e3 => (wI_X12_thingClause_l106 h0 h1 h2 h3 h4 h5 e3)) hS) (fun e49 e1 => ?_)
  exact zwl_r e1
set_option maxHeartbeats 40000 in
set_option maxRecDepth 100000 in
theorem wI_X12_thingClause {T : zT} {k0 : Nat} {S S0 : zS} {a b : Nat} (h0 : ¬ (a = k0 ∧ b = 2)) (h1 : ¬ (a = k0 ∧ b = 3)) (h2 : ¬ a = zr T k0 22) (h3 : ¬ a = zr T k0 23) (h4 : ¬ a = zr T k0 24) (h5 : ¬ a = zr T k0 25) (h6 : ¬ a = zr T k0 26) (h7 : ¬ a = zr T k0 27) (h8 : ¬ a = zr T k0 28) (hS : S.1 a b = S0.1 a b) : zwl (fX12_thingClause T k0 S) (fun q0 => q0.2.1 a b = S0.1 a b) := by
  unfold fX12_thingClause
  refine zwl_b (wI_X12_letter h0 hS) (fun r1 S3 e1 => ?_)
  refine zwl_i ?_ ?_
  · refine zwl_b (wI_X12_fails h1 e1) (fun r2 S57 e3 => ?_)
    exact zwl_r e3
  · refine zwl_v (fun u5 => ?_)
    refine zwl_g ?_
    refine zwl_i ?_ ?_
    · refine zwl_b (wI_X12_fails h1 e1) (fun r4 S54 e5 => ?_)
      exact zwl_r e5
    · refine zwl_sIf h0 e1 (fun S8 e6 => ?_)
      refine zwl_g ?_
      refine zwl_sIa h2 e6 (fun S10 e7 => ?_)
      refine zwl_b (wI_X12_amount h0 h1 e7) (fun r11 S13 e8 => ?_)
      refine zwl_g ?_
      refine zwl_sIa h3 e8 (fun S15 e9 => ?_)
      refine zwl_b (wI_X12_amount h0 h1 e9) (fun r16 S18 e10 => ?_)
      refine zwl_g ?_
      refine zwl_sIa h4 e10 (fun S20 e11 => ?_)
      refine zwl_i ?_ ?_
      · exact (wI_X12_thingClause_b104 h0 h1 h5 h6 h7 h8 e11)
      · exact (wI_X12_thingClause_b104 h0 h1 h5 h6 h7 h8 e11)
set_option maxHeartbeats 40000 in
set_option maxRecDepth 100000 in
theorem wI_X12_goesBy_b238 {T : zT} {k0 : Nat} {x1 : Int32} {x2 : Int32} {x3 : Int32} {x4 : Int32} {S S0 : zS} {a b : Nat}  (hS : S.1 a b = S0.1 a b) : zwl (fX12_goesBy_b238 T k0 x1 x2 x3 x4 S) (Sum.elim (fun q1 => q1.2.2.1 a b = S0.1 a b) (fun q1 => q1.2.1 a b = S0.1 a b)) := by
  unfold fX12_goesBy_b238
  refine zwl_v (fun u10 => ?_)
  exact zwl_r hS
set_option maxHeartbeats 40000 in
set_option maxRecDepth 100000 in
theorem wI_X12_goesBy_b169 {T : zT} {k0 : Nat} {x1 : Int32} {x2 : Int32} {x3 : Int32} {x4 : Int32} {x5 : Int32} {s0 : Int32} {s1 : Nat} {S S0 : zS} {a b : Nat} (h0 : ¬ (a = s1 ∧ b = 49)) (hS : S.1 a b = S0.1 a b) : zwl (fX12_goesBy_b169 T k0 x1 x2 x3 x4 x5 s0 s1 S) (Sum.elim (fun q1 => q1.2.1 a b = S0.1 a b) (fun q1 => q1.2.1 a b = S0.1 a b)) := by
  unfold fX12_goesBy_b169
  refine zwl_sIf h0 hS (fun S25 e1 => ?_)
  refine zwl_v (fun u26 => ?_)
  exact zwl_r e1
set_option maxHeartbeats 40000 in
set_option maxRecDepth 100000 in
theorem wI_X12_goesBy_l120 {T : zT} {k0 : Nat} {x1 : Int32} {x2 : Int32} {x4 : Int32} {x5 : Int32} {x3 : Int32} {S S0 : zS} {a b : Nat} (h0 : ¬ (a = k0 ∧ b = 48)) (h1 : ¬ (a = k0 ∧ b = 47)) (h2 : ¬ a = zr T k0 40) (h3 : ¬ a = zr T k0 41) (h4 : ¬ a = zr T k0 42) (h5 : ¬ a = zr T k0 43) (h6 : ¬ a = zr T k0 46) (h7 : ¬ (a = k0 ∧ b = 49)) (hS : S.1 a b = S0.1 a b) : zwl (fX12_goesBy_l120 T k0 x1 x2 x4 x5 x3 S) (Sum.elim (fun q1 => q1.2.1 a b = S0.1 a b) (fun q1 => q1.2.1 a b = S0.1 a b)) := by
  unfold fX12_goesBy_l120
  refine zwl_i ?_ ?_
  · refine zwl_i ?_ ?_
    · refine zwl_i ?_ ?_
      · exact zwl_r hS
      · refine zwl_g ?_
        refine zwl_i ?_ ?_
        · refine zwl_b (wI_X12_does h0 h1 h2 h3 h4 h5 h6 hS) (fun r21 S23 e1 => ?_)
          refine zwl_i ?_ ?_
          · exact (wI_X12_goesBy_b169 h7 e1)
          · exact (wI_X12_goesBy_b169 h7 e1)
        · exact zwl_r hS
    · exact zwl_r hS
  · exact zwl_r hS
set_option maxHeartbeats 40000 in
set_option maxRecDepth 100000 in
theorem wI_X12_goesBy_b178 {T : zT} {k0 : Nat} {x1 : Int32} {x2 : Int32} {x3 : Int32} {x4 : Int32} {x5 : Int32} {S S0 : zS} {a b : Nat} (h0 : ¬ (a = k0 ∧ b = 48)) (h1 : ¬ (a = k0 ∧ b = 50)) (h2 : ¬ a = zr T k0 44) (h3 : ¬ a = zr T k0 45) (h4 : ¬ (a = k0 ∧ b = 51)) (hS : S.1 a b = S0.1 a b) : zwl (fX12_goesBy_b178 T k0 x1 x2 x3 x4 x5 S) (Sum.elim (fun q1 => q1.2.2.1 a b = S0.1 a b) (fun q1 => q1.2.1 a b = S0.1 a b)) := by
  unfold fX12_goesBy_b178
  refine zwl_i ?_ ?_
  · refine zwl_i ?_ ?_
    · refine zwl_b (wI_X12_ends h0 h1 hS) (fun r30 S32 e1 => ?_)
      refine zwl_i ?_ ?_
      · exact (wI_X12_goesBy_b238  e1)
      · refine zwl_g ?_
        refine zwl_sIa h2 e1 (fun S35 e2 => ?_)
        refine zwl_t (fun r36 => ?_)
        refine zwl_g ?_
        refine zwl_sIa h3 e2 (fun S39 e3 => ?_)
        refine zwl_sIf h4 e3 (fun S40 e4 => ?_)
        exact (wI_X12_goesBy_b238  e4)
    · exact (wI_X12_goesBy_b238  hS)
  · exact (wI_X12_goesBy_b238  hS)
set_option maxHeartbeats 40000 in
set_option maxRecDepth 100000 in
theorem wI_X12_goesBy_e120 {T : zT} {k0 : Nat} {x1 : Int32} {x2 : Int32} {x3 : Int32} {x4 : Int32} {x5 : Int32} {S S0 : zS} {a b : Nat} (h0 : ¬ (a = k0 ∧ b = 48)) (h1 : ¬ (a = k0 ∧ b = 47)) (h2 : ¬ a = zr T k0 40) (h3 : ¬ a = zr T k0 41) (h4 : ¬ a = zr T k0 42) (h5 : ¬ a = zr T k0 43) (h6 : ¬ a = zr T k0 46) (h7 : ¬ (a = k0 ∧ b = 49)) (h8 : ¬ (a = k0 ∧ b = 50)) (h9 : ¬ a = zr T k0 44) (h10 : ¬ a = zr T k0 45) (h11 : ¬ (a = k0 ∧ b = 51)) (hS : S.1 a b = S0.1 a b) : zwl (fX12_goesBy_e120 T k0 x1 x2 x3 x4 x5 S) (Sum.elim (fun q1 => q1.2.2.1 a b = S0.1 a b) (fun q1 => q1.2.1 a b = S0.1 a b)) := by
  unfold fX12_goesBy_e120
  refine zwl_b1 (zwl_lp (I := (fun q0 => q0.2.1 a b = S0.1 a b)) (Q := (fun q0 => q0.2.1 a b = S0.1 a b)) (fun a e3 => (wI_X12_goesBy_l120 h0 h1 h2 h3 h4 h5 h6 h7 e3)) hS) (fun e27 e1 => ?_)
  exact (wI_X12_goesBy_b178 h0 h8 h9 h10 h11 e1)
set_option maxHeartbeats 40000 in
set_option maxRecDepth 100000 in
theorem wI_X12_goesBy_b116 {T : zT} {k0 : Nat} {x1 : Int32} {x2 : Int32} {x3 : Int32} {x4 : Int32} {x5 : Int32} {s0 : Int32} {s1 : Int32} {s2 : Nat} {S S0 : zS} {a b : Nat} (h0 : ¬ (a = s2 ∧ b = 48)) (h1 : ¬ (a = k0 ∧ b = 48)) (h2 : ¬ (a = k0 ∧ b = 47)) (h3 : ¬ a = zr T k0 40) (h4 : ¬ a = zr T k0 41) (h5 : ¬ a = zr T k0 42) (h6 : ¬ a = zr T k0 43) (h7 : ¬ a = zr T k0 46) (h8 : ¬ (a = k0 ∧ b = 49)) (h9 : ¬ (a = k0 ∧ b = 50)) (h10 : ¬ a = zr T k0 44) (h11 : ¬ a = zr T k0 45) (h12 : ¬ (a = k0 ∧ b = 51)) (hS : S.1 a b = S0.1 a b) : zwl (fX12_goesBy_b116 T k0 x1 x2 x3 x4 x5 s0 s1 s2 S) (Sum.elim (fun q1 => q1.2.2.1 a b = S0.1 a b) (fun q1 => q1.2.1 a b = S0.1 a b)) := by
  unfold fX12_goesBy_b116
  refine zwl_sIf h0 hS (fun S49 e1 => ?_)
  exact (wI_X12_goesBy_e120 h1 h2 h3 h4 h5 h6 h7 h8 h9 h10 h11 h12 e1)
set_option maxHeartbeats 40000 in
set_option maxRecDepth 100000 in
theorem wI_X12_goesBy_b90 {T : zT} {k0 : Nat} {x1 : Int32} {x2 : Int32} {x3 : Int32} {x4 : Int32} {x5 : Int32} {s0 : Int32} {s1 : Nat} {S S0 : zS} {a b : Nat} (h0 : ¬ (a = s1 ∧ b = 50)) (h1 : ¬ (a = k0 ∧ b = 48)) (h2 : ¬ (a = k0 ∧ b = 47)) (h3 : ¬ a = zr T k0 40) (h4 : ¬ a = zr T k0 41) (h5 : ¬ a = zr T k0 42) (h6 : ¬ a = zr T k0 43) (h7 : ¬ a = zr T k0 46) (h8 : ¬ (a = k0 ∧ b = 49)) (h9 : ¬ (a = k0 ∧ b = 50)) (h10 : ¬ a = zr T k0 44) (h11 : ¬ a = zr T k0 45) (h12 : ¬ (a = k0 ∧ b = 51)) (hS : S.1 a b = S0.1 a b) : zwl (fX12_goesBy_b90 T k0 x1 x2 x3 x4 x5 s0 s1 S) (Sum.elim (fun q1 => q1.2.2.1 a b = S0.1 a b) (fun q1 => q1.2.1 a b = S0.1 a b)) := by
  unfold fX12_goesBy_b90
  refine zwl_sIf h0 hS (fun S47 e1 => ?_)
  refine zwl_i ?_ ?_
  · refine zwl_g ?_
    exact (wI_X12_goesBy_b116 h1 h1 h2 h3 h4 h5 h6 h7 h8 h9 h10 h11 h12 e1)
  · exact (wI_X12_goesBy_b116 h1 h1 h2 h3 h4 h5 h6 h7 h8 h9 h10 h11 h12 e1)
set_option maxHeartbeats 40000 in
set_option maxRecDepth 100000 in
theorem wI_X12_goesBy_l9 {T : zT} {k0 : Nat} {x1 : Int32} {x2 : Int32} {x3 : Int32} {x4 : Int32} {S S0 : zS} {a b : Nat} (h0 : ¬ a = zr T k0 40) (h1 : ¬ (a = k0 ∧ b = 48)) (h2 : ¬ (a = k0 ∧ b = 47)) (h3 : ¬ a = zr T k0 41) (h4 : ¬ a = zr T k0 42) (h5 : ¬ a = zr T k0 43) (h6 : ¬ a = zr T k0 46) (h7 : ¬ (a = k0 ∧ b = 49)) (h8 : ¬ (a = k0 ∧ b = 50)) (h9 : ¬ a = zr T k0 44) (h10 : ¬ a = zr T k0 45) (h11 : ¬ (a = k0 ∧ b = 51)) (hS : S.1 a b = S0.1 a b) : zwl (fX12_goesBy_l9 T k0 x1 x2 x3 x4 S) (Sum.elim (fun q1 => q1.2.2.1 a b = S0.1 a b) (fun q1 => q1.2.1 a b = S0.1 a b)) := by
  unfold fX12_goesBy_l9
  refine zwl_g ?_
  refine zwl_i ?_ ?_
  · exact zwl_r hS
  · refine zwl_b (wI_X12_works  hS) (fun r6 S8 e1 => ?_)
    refine zwl_i ?_ ?_
    · refine zwl_i ?_ ?_
      · refine zwl_b (wI_X12_loses h0 e1) (fun r2 S14 e3 => ?_)
        refine zwl_i ?_ ?_
        · exact (wI_X12_goesBy_e120 h1 h2 h0 h3 h4 h5 h6 h7 h8 h9 h10 h11 e3)
        · refine zwl_g ?_
          refine zwl_i ?_ ?_
          · refine zwl_g ?_
            refine zwl_i ?_ ?_
            · exact (wI_X12_goesBy_b90 h8 h1 h2 h0 h3 h4 h5 h6 h7 h8 h9 h10 h11 e3)
            · exact (wI_X12_goesBy_b90 h8 h1 h2 h0 h3 h4 h5 h6 h7 h8 h9 h10 h11 e3)
          · exact (wI_X12_goesBy_e120 h1 h2 h0 h3 h4 h5 h6 h7 h8 h9 h10 h11 e3)
      · exact (wI_X12_goesBy_b238  e1)
    · exact (wI_X12_goesBy_b238  e1)
set_option maxHeartbeats 40000 in
set_option maxRecDepth 100000 in
theorem wI_X12_goesBy_b273 {T : zT} {S S0 : zS} {a b : Nat}  (hS : S.1 a b = S0.1 a b) : zwl (fX12_goesBy_b273 T S) (fun q0 => q0.2.1 a b = S0.1 a b) := by
  unfold fX12_goesBy_b273
  exact zwl_r hS
set_option maxHeartbeats 40000 in
set_option maxRecDepth 100000 in
theorem wI_X12_goesBy {T : zT} {k0 : Nat} {x1 : Int32} {x2 : Int32} {S S0 : zS} {a b : Nat} (h0 : ¬ a = zr T k0 40) (h1 : ¬ a = zr T k0 41) (h2 : ¬ a = zr T k0 42) (h3 : ¬ a = zr T k0 43) (h4 : ¬ a = zr T k0 46) (h5 : ¬ (a = k0 ∧ b = 48)) (h6 : ¬ (a = k0 ∧ b = 47)) (h7 : ¬ (a = k0 ∧ b = 49)) (h8 : ¬ (a = k0 ∧ b = 50)) (h9 : ¬ (a = k0 ∧ b = 51)) (h10 : ¬ a = zr T k0 44) (h11 : ¬ a = zr T k0 45) (hS : S.1 a b = S0.1 a b) : zwl (fX12_goesBy T k0 x1 x2 S) (fun q0 => q0.2.1 a b = S0.1 a b) := by
  unfold fX12_goesBy
  refine zwl_b (wI_X12_begins h0 h1 h2 h3 h4 h5 h6 h7 h8 h9 hS) (fun r1 S3 e2 => ?_)
  refine zwl_b1 (zwl_lp (I := (fun q0 => q0.2.2.1 a b = S0.1 a b)) (Q := (fun q0 => q0.2.1 a b = S0.1 a b)) (fun a e5 => (wI_X12_goesBy_l9 h0 h5 h6 h1 h2 h3 h4 h7 h8 h10 h11 h9 e5)) e2) (fun e51 e3 => ?_)
  refine zwl_i ?_ ?_
  · refine zwl_i ?_ ?_
    · refine zwl_i ?_ ?_
      · exact (wI_X12_goesBy_b273  e3)
      · refine zwl_sIf h7 e3 (fun S55 e6 => ?_)
        exact (wI_X12_goesBy_b273  e6)
    · exact (wI_X12_goesBy_b273  e3)
  · exact (wI_X12_goesBy_b273  e3)
set_option maxHeartbeats 40000 in
set_option maxRecDepth 100000 in
theorem wI_X12_plans_l2 {T : zT} {k0 : Nat} {x1 : Int32} {S S0 : zS} {a b : Nat} (h0 : ¬ a = zr T k0 53) (hS : S.1 a b = S0.1 a b) : zwl (fX12_plans_l2 T k0 x1 S) (Sum.elim (fun q1 => q1.2.1 a b = S0.1 a b) (fun q1 => q1.1 a b = S0.1 a b)) := by
  unfold fX12_plans_l2
  refine zwl_i ?_ ?_
  · exact zwl_r hS
  · refine zwl_g ?_
    refine zwl_sIa h0 hS (fun S3 e1 => ?_)
    refine zwl_v (fun u4 => ?_)
    exact zwl_r e1
set_option maxHeartbeats 40000 in
set_option maxRecDepth 100000 in
theorem wI_X12_plans_b205 {T : zT} {k0 : Nat} {x1 : Int32} {x2 : Int32} {S S0 : zS} {a b : Nat}  (hS : S.1 a b = S0.1 a b) : zwl (fX12_plans_b205 T k0 x1 x2 S) (Sum.elim (fun q1 => q1.2.1 a b = S0.1 a b) (fun q1 => q1.1 a b = S0.1 a b)) := by
  unfold fX12_plans_b205
  refine zwl_v (fun u12 => ?_)
  exact zwl_r hS
set_option maxHeartbeats 40000 in
set_option maxRecDepth 100000 in
theorem wI_X12_plans_b191 {T : zT} {k0 : Nat} {x1 : Int32} {x2 : Int32} {x3 : Int32} {x4 : Int32} {x5 : Int32} {s0 : Int32} {S S0 : zS} {a b : Nat}  (hS : S.1 a b = S0.1 a b) : zwl (fX12_plans_b191 T k0 x1 x2 x3 x4 x5 s0 S) (Sum.elim (fun q1 => q1.2.2.1 a b = S0.1 a b) (fun q1 => q1.1 a b = S0.1 a b)) := by
  unfold fX12_plans_b191
  refine zwl_v (fun u26 => ?_)
  exact zwl_r hS
set_option maxHeartbeats 40000 in
set_option maxRecDepth 100000 in
theorem wI_X12_plans_b180 {T : zT} {k0 : Nat} {x1 : Int32} {x2 : Int32} {x3 : Int32} {x4 : Int32} {x5 : Int32} {s0 : Int32} {s1 : Int32} {s2 : Nat} {m2 : Nat} {S S0 : zS} {a b : Nat} (h0 : ¬ a = s2) (hS : S.1 a b = S0.1 a b) : zwl (fX12_plans_b180 T k0 x1 x2 x3 x4 x5 s0 s1 s2 m2 S) (Sum.elim (fun q1 => q1.2.2.1 a b = S0.1 a b) (fun q1 => q1.1 a b = S0.1 a b)) := by
  unfold fX12_plans_b180
  refine zwl_g ?_
  refine zwl_sIa h0 hS (fun S24 e1 => ?_)
  refine zwl_i ?_ ?_
  · exact (wI_X12_plans_b191  e1)
  · exact (wI_X12_plans_b191  e1)
set_option maxHeartbeats 40000 in
set_option maxRecDepth 100000 in
theorem wI_X12_plans_l110 {T : zT} {k0 : Nat} {x1 : Int32} {x2 : Int32} {x3 : Int32} {x4 : Int32} {x5 : Int32} {x6 : Int32} {S S0 : zS} {a b : Nat} (h0 : ¬ a = zr T k0 53) (hS : S.1 a b = S0.1 a b) : zwl (fX12_plans_l110 T k0 x1 x2 x3 x4 x5 x6 S) (Sum.elim (fun q1 => q1.2.2.1 a b = S0.1 a b) (fun q1 => q1.1 a b = S0.1 a b)) := by
  unfold fX12_plans_l110
  refine zwl_i ?_ ?_
  · exact zwl_r hS
  · refine zwl_v (fun u16 => ?_)
    refine zwl_b (wI_X12_leads  hS) (fun r17 S19 e1 => ?_)
    refine zwl_g ?_
    refine zwl_i ?_ ?_
    · refine zwl_g ?_
      exact (wI_X12_plans_b180 h0 e1)
    · exact (wI_X12_plans_b180 h0 e1)
set_option maxHeartbeats 40000 in
set_option maxRecDepth 100000 in
theorem wI_X12_plans_b89 {T : zT} {k0 : Nat} {x1 : Int32} {x2 : Int32} {s0 : Int32} {S S0 : zS} {a b : Nat} (h0 : ¬ a = zr T k0 53) (hS : S.1 a b = S0.1 a b) : zwl (fX12_plans_b89 T k0 x1 x2 s0 S) (Sum.elim (fun q1 => q1.2.1 a b = S0.1 a b) (fun q1 => q1.1 a b = S0.1 a b)) := by
  unfold fX12_plans_b89
  refine zwl_i ?_ ?_
  · exact (wI_X12_plans_b205  hS)
  · refine zwl_t (fun r13 => ?_)
    refine zwl_b1 (zwl_lp (I := (fun q0 => q0.2.2.1 a b = S0.1 a b)) (Q := (fun q0 => q0.1 a b = S0.1 a b)) (fun a e3 => (wI_X12_plans_l110 h0 e3)) hS) (fun e27 e1 => ?_)
    exact (wI_X12_plans_b205  e1)
set_option maxHeartbeats 40000 in
set_option maxRecDepth 100000 in
theorem wI_X12_plans_b71 {T : zT} {k0 : Nat} {x1 : Int32} {x2 : Int32} {S S0 : zS} {a b : Nat} (h0 : ¬ a = zr T k0 53) (hS : S.1 a b = S0.1 a b) : zwl (fX12_plans_b71 T k0 x1 x2 S) (Sum.elim (fun q1 => q1.2.1 a b = S0.1 a b) (fun q1 => q1.1 a b = S0.1 a b)) := by
  unfold fX12_plans_b71
  exact (wI_X12_plans_b89 h0 hS)
set_option maxHeartbeats 40000 in
set_option maxRecDepth 100000 in
theorem wI_X12_plans_l38 {T : zT} {k0 : Nat} {x1 : Int32} {x2 : Int32} {S S0 : zS} {a b : Nat} (h0 : ¬ a = zr T k0 53) (hS : S.1 a b = S0.1 a b) : zwl (fX12_plans_l38 T k0 x1 x2 S) (Sum.elim (fun q1 => q1.2.1 a b = S0.1 a b) (fun q1 => q1.1 a b = S0.1 a b)) := by
  unfold fX12_plans_l38
  refine zwl_i ?_ ?_
  · exact zwl_r hS
  · refine zwl_i ?_ ?_
    · refine zwl_i ?_ ?_
      · refine zwl_i ?_ ?_
        · exact (wI_X12_plans_b71 h0 hS)
        · exact (wI_X12_plans_b89 h0 hS)
      · exact (wI_X12_plans_b71 h0 hS)
    · refine zwl_g ?_
      exact (wI_X12_plans_b89 h0 hS)
set_option maxHeartbeats 40000 in
set_option maxRecDepth 100000 in
theorem wI_X12_plans_l26 {T : zT} {k0 : Nat} {x1 : Int32} {S S0 : zS} {a b : Nat} (h0 : ¬ a = zr T k0 53) (hS : S.1 a b = S0.1 a b) : zwl (fX12_plans_l26 T k0 x1 S) (Sum.elim (fun q1 => q1.2.1 a b = S0.1 a b) (fun q1 => q1.1 a b = S0.1 a b)) := by
  unfold fX12_plans_l26
  refine zwl_g ?_
  refine zwl_i ?_ ?_
  · exact zwl_r hS
  · refine zwl_b1 (zwl_lp (I := (fun q0 => q0.2.1 a b = S0.1 a b)) (Q := (fun q0 => q0.1 a b = S0.1 a b)) (fun a e3 => (wI_X12_plans_l38 h0 e3)) hS) (fun e32 e1 => ?_)
    refine zwl_v (fun u33 => ?_)
    exact zwl_r e1
set_option maxHeartbeats 40000 in
set_option maxRecDepth 100000 in
theorem wI_X12_plans {T : zT} {k0 : Nat} {S S0 : zS} {a b : Nat} (h0 : ¬ a = zr T k0 53) (hS : S.1 a b = S0.1 a b) : zwl (fX12_plans T k0 S) (fun q0 => q0.2.1 a b = S0.1 a b) := by
  unfold fX12_plans
  refine zwl_b1 (zwl_lp (I := (fun q0 => q0.2.1 a b = S0.1 a b)) (Q := (fun q0 => q0.1 a b = S0.1 a b)) (fun a e3 => (wI_X12_plans_l2 h0 e3)) hS) (fun e5 e1 => ?_)
  refine zwl_b1 (zwl_lp (I := (fun q0 => q0.2.1 a b = S0.1 a b)) (Q := (fun q0 => q0.1 a b = S0.1 a b)) (fun a e6 => (wI_X12_plans_l26 h0 e6)) e1) (fun e36 e4 => ?_)
  exact zwl_r e4
set_option maxHeartbeats 40000 in
set_option maxRecDepth 100000 in
theorem wI_X12_goesBack_b135 {T : zT} {k0 : Nat} {x1 : Int32} {x2 : Int32} {x4 : Int32} {s0 : Int32} {S S0 : zS} {a b : Nat}  (hS : S.1 a b = S0.1 a b) : zwl (fX12_goesBack_b135 T k0 x1 x2 x4 s0 S) (Sum.elim (fun q1 => q1.2.2.1 a b = S0.1 a b) (fun q1 => q1.2.1 a b = S0.1 a b)) := by
  unfold fX12_goesBack_b135
  refine zwl_v (fun u14 => ?_)
  exact zwl_r hS
set_option maxHeartbeats 40000 in
set_option maxRecDepth 100000 in
theorem wI_X12_goesBack_b134 {T : zT} {k0 : Nat} {x1 : Int32} {x2 : Int32} {x3 : Int32} {x4 : Int32} {S S0 : zS} {a b : Nat}  (hS : S.1 a b = S0.1 a b) : zwl (fX12_goesBack_b134 T k0 x1 x2 x3 x4 S) (Sum.elim (fun q1 => q1.2.2.1 a b = S0.1 a b) (fun q1 => q1.2.1 a b = S0.1 a b)) := by
  unfold fX12_goesBack_b134
  exact (wI_X12_goesBack_b135  hS)
set_option maxHeartbeats 40000 in
set_option maxRecDepth 100000 in
theorem wI_X12_goesBack_b97 {T : zT} {k0 : Nat} {x1 : Int32} {x2 : Int32} {x3 : Int32} {x4 : Int32} {x5 : Int32} {s0 : Int32} {S S0 : zS} {a b : Nat}  (hS : S.1 a b = S0.1 a b) : zwl (fX12_goesBack_b97 T k0 x1 x2 x3 x4 x5 s0 S) (Sum.elim (fun q1 => q1.2.2.1 a b = S0.1 a b) (fun q1 => q1.2.1 a b = S0.1 a b)) := by
  unfold fX12_goesBack_b97
  refine zwl_i ?_ ?_
  · exact (wI_X12_goesBack_b134  hS)
  · refine zwl_b (wI_X12_leads  hS) (fun r15 S17 e1 => ?_)
    refine zwl_g ?_
    refine zwl_i ?_ ?_
    · exact (wI_X12_goesBack_b135  e1)
    · exact (wI_X12_goesBack_b134  e1)
set_option maxHeartbeats 40000 in
set_option maxRecDepth 100000 in
theorem wI_X12_goesBack_b96 {T : zT} {k0 : Nat} {x1 : Int32} {x2 : Int32} {x3 : Int32} {x4 : Int32} {x5 : Int32} {S S0 : zS} {a b : Nat}  (hS : S.1 a b = S0.1 a b) : zwl (fX12_goesBack_b96 T k0 x1 x2 x3 x4 x5 S) (Sum.elim (fun q1 => q1.2.2.1 a b = S0.1 a b) (fun q1 => q1.2.1 a b = S0.1 a b)) := by
  unfold fX12_goesBack_b96
  exact (wI_X12_goesBack_b97  hS)
set_option maxHeartbeats 40000 in
set_option maxRecDepth 100000 in
theorem wI_X12_goesBack_l32 {T : zT} {k0 : Nat} {x1 : Int32} {x2 : Int32} {x3 : Int32} {x4 : Int32} {S S0 : zS} {a b : Nat}  (hS : S.1 a b = S0.1 a b) : zwl (fX12_goesBack_l32 T k0 x1 x2 x3 x4 S) (Sum.elim (fun q1 => q1.2.2.1 a b = S0.1 a b) (fun q1 => q1.2.1 a b = S0.1 a b)) := by
  unfold fX12_goesBack_l32
  refine zwl_i ?_ ?_
  · exact zwl_r hS
  · refine zwl_i ?_ ?_
    · exact zwl_r hS
    · refine zwl_g ?_
      refine zwl_v (fun u11 => ?_)
      refine zwl_i ?_ ?_
      · exact (wI_X12_goesBack_b96  hS)
      · refine zwl_i ?_ ?_
        · refine zwl_t (fun r21 => ?_)
          refine zwl_i ?_ ?_
          · exact (wI_X12_goesBack_b97  hS)
          · exact (wI_X12_goesBack_b96  hS)
        · exact (wI_X12_goesBack_b96  hS)
set_option maxHeartbeats 40000 in
set_option maxRecDepth 100000 in
theorem wI_X12_goesBack_b142 {T : zT} {k0 : Nat} {x2 : Int32} {x3 : Int32} {S S0 : zS} {a b : Nat}  (hS : S.1 a b = S0.1 a b) : zwl (fX12_goesBack_b142 T k0 x2 x3 S) (Sum.elim (fun q1 => q1.2.2.1 a b = S0.1 a b) (fun q1 => q1.1 a b = S0.1 a b)) := by
  unfold fX12_goesBack_b142
  refine zwl_v (fun u25 => ?_)
  exact zwl_r hS
set_option maxHeartbeats 40000 in
set_option maxRecDepth 100000 in
theorem wI_X12_goesBack_l14 {T : zT} {k0 : Nat} {x1 : Int32} {x2 : Int32} {S S0 : zS} {a b : Nat} (h0 : ¬ a = zr T k0 60) (hS : S.1 a b = S0.1 a b) : zwl (fX12_goesBack_l14 T k0 x1 x2 S) (Sum.elim (fun q1 => q1.2.2.1 a b = S0.1 a b) (fun q1 => q1.1 a b = S0.1 a b)) := by
  unfold fX12_goesBack_l14
  refine zwl_i ?_ ?_
  · exact zwl_r hS
  · refine zwl_g ?_
    refine zwl_sIa h0 hS (fun S7 e1 => ?_)
    refine zwl_b1 (zwl_lp (I := (fun q0 => q0.2.2.1 a b = S0.1 a b)) (Q := (fun q0 => q0.2.1 a b = S0.1 a b)) (fun a e4 => (wI_X12_goesBack_l32  e4)) e1) (fun e24 e2 => ?_)
    exact (wI_X12_goesBack_b142  e2)
set_option maxHeartbeats 40000 in
set_option maxRecDepth 100000 in
theorem wI_X12_goesBack {T : zT} {k0 : Nat} {S S0 : zS} {a b : Nat} (h0 : ¬ a = zr T k0 60) (hS : S.1 a b = S0.1 a b) : zwl (fX12_goesBack T k0 S) (fun q0 => q0.2.1 a b = S0.1 a b) := by
  unfold fX12_goesBack
  refine zwl_t (fun r1 => ?_)
  refine zwl_g ?_
  refine zwl_v (fun u4 => ?_)
  refine zwl_b1 (zwl_lp (I := (fun q0 => q0.2.2.1 a b = S0.1 a b)) (Q := (fun q0 => q0.1 a b = S0.1 a b)) (fun a e3 => (wI_X12_goesBack_l14 h0 e3)) hS) (fun e28 e1 => ?_)
  exact zwl_r e1
set_option maxHeartbeats 40000 in
set_option maxRecDepth 100000 in
theorem wI_X12_likes_b56 {T : zT} {S S0 : zS} {a b : Nat}  (hS : S.1 a b = S0.1 a b) : zwl (fX12_likes_b56 T S) (fun q0 => q0.2.1 a b = S0.1 a b) := by
  unfold fX12_likes_b56
  exact zwl_r hS
set_option maxHeartbeats 40000 in
set_option maxRecDepth 100000 in
theorem wI_X12_likes {T : zT} {k0 : Nat} {x1 : Int32} {x2 : Int32} {x3 : Int32} {x4 : Int32} {x5 : Int32} {S S0 : zS} {a b : Nat}  (hS : S.1 a b = S0.1 a b) : zwl (fX12_likes T k0 x1 x2 x3 x4 x5 S) (fun q0 => q0.2.1 a b = S0.1 a b) := by
  unfold fX12_likes
  refine zwl_t (fun r1 => ?_)
  refine zwl_i ?_ ?_
  · exact (wI_X12_likes_b56  hS)
  · refine zwl_t (fun r4 => ?_)
    refine zwl_i ?_ ?_
    · exact (wI_X12_likes_b56  hS)
    · refine zwl_t (fun r7 => ?_)
      refine zwl_i ?_ ?_
      · exact (wI_X12_likes_b56  hS)
      · refine zwl_t (fun r10 => ?_)
        refine zwl_i ?_ ?_
        · exact (wI_X12_likes_b56  hS)
        · refine zwl_i ?_ ?_
          · exact (wI_X12_likes_b56  hS)
          · refine zwl_t (fun r14 => ?_)
            refine zwl_i ?_ ?_
            · exact (wI_X12_likes_b56  hS)
            · refine zwl_t (fun r17 => ?_)
              refine zwl_b (wI_X12_likesIt  hS) (fun r19 S21 e1 => ?_)
              exact zwl_r e1
set_option maxHeartbeats 40000 in
set_option maxRecDepth 100000 in
theorem wI_X12_nextOf_b114 {T : zT} {k0 : Nat} {x1 : Int32} {x2 : Int32} {x3 : Int32} {x4 : Int32} {x5 : Int32} {x6 : Int32} {l7 : Int64} {x9 : Int32} {S S0 : zS} {a b : Nat}  (hS : S.1 a b = S0.1 a b) : zwl (fX12_nextOf_b114 T k0 x1 x2 x3 x4 x5 x6 l7 x9 S) (Sum.elim (fun q1 => q1.2.2.2.1 a b = S0.1 a b) (fun q1 => q1.2.1 a b = S0.1 a b)) := by
  unfold fX12_nextOf_b114
  refine zwl_v (fun u10 => ?_)
  exact zwl_r hS
set_option maxHeartbeats 40000 in
set_option maxRecDepth 100000 in
theorem wI_X12_nextOf_b112 {T : zT} {k0 : Nat} {x1 : Int32} {x2 : Int32} {x3 : Int32} {x4 : Int32} {x5 : Int32} {x6 : Int32} {x9 : Int32} {s0 : Int64} {S S0 : zS} {a b : Nat}  (hS : S.1 a b = S0.1 a b) : zwl (fX12_nextOf_b112 T k0 x1 x2 x3 x4 x5 x6 x9 s0 S) (Sum.elim (fun q1 => q1.2.2.2.1 a b = S0.1 a b) (fun q1 => q1.2.1 a b = S0.1 a b)) := by
  unfold fX12_nextOf_b112
  exact (wI_X12_nextOf_b114  hS)
set_option maxHeartbeats 40000 in
set_option maxRecDepth 100000 in
theorem wI_X12_nextOf_b95 {T : zT} {k0 : Nat} {x1 : Int32} {x2 : Int32} {x3 : Int32} {x4 : Int32} {x5 : Int32} {l7 : Int64} {x9 : Int32} {l10 : Int64} {s0 : Int32} {S S0 : zS} {a b : Nat}  (hS : S.1 a b = S0.1 a b) : zwl (fX12_nextOf_b95 T k0 x1 x2 x3 x4 x5 l7 x9 l10 s0 S) (Sum.elim (fun q1 => q1.2.2.2.1 a b = S0.1 a b) (fun q1 => q1.2.1 a b = S0.1 a b)) := by
  unfold fX12_nextOf_b95
  refine zwl_i ?_ ?_
  · exact (wI_X12_nextOf_b112  hS)
  · exact (wI_X12_nextOf_b112  hS)
set_option maxHeartbeats 40000 in
set_option maxRecDepth 100000 in
theorem wI_X12_nextOf_l29 {T : zT} {k0 : Nat} {x1 : Int32} {x2 : Int32} {x3 : Int32} {x4 : Int32} {x5 : Int32} {x6 : Int32} {l7 : Int64} {x9 : Int32} {S S0 : zS} {a b : Nat}  (hS : S.1 a b = S0.1 a b) : zwl (fX12_nextOf_l29 T k0 x1 x2 x3 x4 x5 x6 l7 x9 S) (Sum.elim (fun q1 => q1.2.2.2.1 a b = S0.1 a b) (fun q1 => q1.2.1 a b = S0.1 a b)) := by
  unfold fX12_nextOf_l29
  refine zwl_i ?_ ?_
  · exact zwl_r hS
  · refine zwl_g ?_
    refine zwl_i ?_ ?_
    · refine zwl_t (fun r11 => ?_)
      refine zwl_i ?_ ?_
      · exact (wI_X12_nextOf_b114  hS)
      · refine zwl_b (wI_X12_likesIt  hS) (fun r14 S16 e1 => ?_)
        refine zwl_i ?_ ?_
        · exact (wI_X12_nextOf_b95  e1)
        · exact (wI_X12_nextOf_b95  e1)
    · exact (wI_X12_nextOf_b114  hS)
set_option maxHeartbeats 40000 in
set_option maxRecDepth 100000 in
theorem wI_X12_nextOf {T : zT} {k0 : Nat} {x1 : Int32} {x2 : Int32} {S S0 : zS} {a b : Nat}  (hS : S.1 a b = S0.1 a b) : zwl (fX12_nextOf T k0 x1 x2 S) (fun q0 => q0.2.1 a b = S0.1 a b) := by
  unfold fX12_nextOf
  refine zwl_t (fun r1 => ?_)
  refine zwl_t (fun r3 => ?_)
  refine zwl_t (fun r5 => ?_)
  refine zwl_b1 (zwl_lp (I := (fun q0 => q0.2.2.2.1 a b = S0.1 a b)) (Q := (fun q0 => q0.2.1 a b = S0.1 a b)) (fun a e3 => (wI_X12_nextOf_l29  e3)) hS) (fun e19 e1 => ?_)
  exact zwl_r e1
set_option maxHeartbeats 40000 in
set_option maxRecDepth 100000 in
theorem wI_X4_liveByRule_l35 {T : zT} {k0 : Nat} {k1 : Nat} {l2 : Int64} {x4 : Int32} {x5 : Int32} {S S0 : zS} {a b : Nat} (h0 : ¬ (a = k0 ∧ b = 3)) (h1 : ¬ (a = k0 ∧ b = 4)) (h2 : ¬ a = zr T k0 11) (hS : S.1 a b = S0.1 a b) : zwl (fX4_liveByRule_l35 T k0 k1 l2 x4 x5 S) (Sum.elim (fun q1 => q1.2.1 a b = S0.1 a b) (Sum.elim (fun q2 => q2.1 a b = S0.1 a b) (fun q2 => q2.1 a b = S0.1 a b))) := by
  unfold fX4_liveByRule_l35
  refine zwl_i ?_ ?_
  · exact zwl_r hS
  · refine zwl_b (wI_X4_likedMost  hS) (fun r10 S12 e1 => ?_)
    refine zwl_i ?_ ?_
    · exact zwl_r e1
    · refine zwl_b (wI_X4_fetchOne h0 h1 h2 e1) (fun r14 S16 e2 => ?_)
      refine zwl_i ?_ ?_
      · exact zwl_r e2
      · refine zwl_v (fun u18 => ?_)
        exact zwl_r e2
set_option maxHeartbeats 40000 in
set_option maxRecDepth 100000 in
theorem wI_X4_liveByRule_b96 {T : zT} {k0 : Nat} {k1 : Nat} {l2 : Int64} {x4 : Int32} {s0 : Int32} {s1 : Int32} {s2 : Nat} {S S0 : zS} {a b : Nat} (h0 : ¬ (a = s2 ∧ b = 3)) (h1 : ¬ (a = s2 ∧ b = 8)) (h2 : ¬ a = zr T s2 9) (h3 : ¬ a = zr T s2 10) (h4 : ¬ (a = s2 ∧ b = 7)) (hS : S.1 a b = S0.1 a b) : zwl (fX4_liveByRule_b96 T k0 k1 l2 x4 s0 s1 s2 S) (Sum.elim (fun q1 => q1.2.1 a b = S0.1 a b) (Sum.elim (fun q2 => q2.1 a b = S0.1 a b) (fun q2 => q2.1 a b = S0.1 a b))) := by
  unfold fX4_liveByRule_b96
  refine zwl_b (wI_X4_endWeek h0 h1 h2 h3 h4 hS) (fun r1 S23 e2 => ?_)
  refine zwl_t (fun r24 => ?_)
  refine zwl_i ?_ ?_
  · exact zwl_r e2
  · refine zwl_v (fun u27 => ?_)
    exact zwl_r e2
set_option maxHeartbeats 40000 in
set_option maxRecDepth 100000 in
theorem wI_X4_liveByRule_b77 {T : zT} {k0 : Nat} {k1 : Nat} {l2 : Int64} {x4 : Int32} {S S0 : zS} {a b : Nat} (h0 : ¬ (a = k0 ∧ b = 3)) (h1 : ¬ (a = k0 ∧ b = 8)) (h2 : ¬ a = zr T k0 9) (h3 : ¬ a = zr T k0 10) (h4 : ¬ (a = k0 ∧ b = 7)) (hS : S.1 a b = S0.1 a b) : zwl (fX4_liveByRule_b77 T k0 k1 l2 x4 S) (Sum.elim (fun q1 => q1.2.1 a b = S0.1 a b) (Sum.elim (fun q2 => q2.1 a b = S0.1 a b) (fun q2 => q2.1 a b = S0.1 a b))) := by
  unfold fX4_liveByRule_b77
  refine zwl_i ?_ ?_
  · exact (wI_X4_liveByRule_b96 h0 h1 h2 h3 h4 hS)
  · exact (wI_X4_liveByRule_b96 h0 h1 h2 h3 h4 hS)
set_option maxHeartbeats 40000 in
set_option maxRecDepth 100000 in
theorem wI_X4_liveByRule_l7 {T : zT} {k0 : Nat} {k1 : Nat} {l2 : Int64} {x4 : Int32} {S S0 : zS} {a b : Nat} (h0 : ¬ (a = k0 ∧ b = 5)) (h1 : ¬ (a = k0 ∧ b = 3)) (h2 : ¬ (a = k0 ∧ b = 7)) (h3 : ¬ (a = k0 ∧ b = 4)) (h4 : ¬ a = zr T k0 11) (h5 : ¬ (a = k0 ∧ b = 8)) (h6 : ¬ a = zr T k0 9) (h7 : ¬ a = zr T k0 10) (hS : S.1 a b = S0.1 a b) : zwl (fX4_liveByRule_l7 T k0 k1 l2 x4 S) (Sum.elim (fun q1 => q1.2.1 a b = S0.1 a b) (Sum.elim (fun q2 => q2.1 a b = S0.1 a b) (fun q2 => q2.1 a b = S0.1 a b))) := by
  unfold fX4_liveByRule_l7
  refine zwl_i ?_ ?_
  · exact zwl_r hS
  · refine zwl_i ?_ ?_
    · exact zwl_r hS
    · refine zwl_b (wI_X4_startWeek h0 h1 h2 hS) (fun r1 S8 e2 => ?_)
      refine zwl_b1 (zwl_lp (I := (fun q0 => q0.2.1 a b = S0.1 a b)) (Q := (Sum.elim (fun q1 => q1.1 a b = S0.1 a b) (fun q1 => q1.1 a b = S0.1 a b))) (fun a e5 => (wI_X4_liveByRule_l35 h1 h3 h4 e5)) e2) (fun e19 e3 => ?_)
      refine zwl_m e3 (fun e19_0 e6 => ?_) (fun e19_1 e7 => ?_)
      · exact (wI_X4_liveByRule_b77 h1 h5 h6 h7 h2 e6)
      · exact (wI_X4_liveByRule_b77 h1 h5 h6 h7 h2 e7)
set_option maxHeartbeats 40000 in
set_option maxRecDepth 100000 in
theorem wI_X4_liveByRule_b113 {T : zT} {S S0 : zS} {a b : Nat}  (hS : S.1 a b = S0.1 a b) : zwl (fX4_liveByRule_b113 T S) (fun q0 => q0.2.1 a b = S0.1 a b) := by
  unfold fX4_liveByRule_b113
  exact zwl_r hS
set_option maxHeartbeats 40000 in
set_option maxRecDepth 100000 in
theorem wI_X4_liveByRule {T : zT} {k0 : Nat} {k1 : Nat} {l2 : Int64} {S S0 : zS} {a b : Nat} (h0 : ¬ (a = k0 ∧ b = 3)) (h1 : ¬ (a = k0 ∧ b = 4)) (h2 : ¬ (a = k0 ∧ b = 5)) (h3 : ¬ (a = k0 ∧ b = 6)) (h4 : ¬ (a = k0 ∧ b = 7)) (h5 : ¬ (a = k0 ∧ b = 8)) (h6 : ¬ (a = k0 ∧ b = 15)) (h7 : ¬ (a = k0 ∧ b = 16)) (h8 : ¬ a = zr T k0 12) (h9 : ¬ a = zr T k0 13) (h10 : ¬ a = zr T k0 14) (h11 : ¬ a = zr T k0 11) (h12 : ¬ a = zr T k0 9) (h13 : ¬ a = zr T k0 10) (hS : S.1 a b = S0.1 a b) : zwl (fX4_liveByRule T k0 k1 l2 S) (fun q0 => q0.2.1 a b = S0.1 a b) := by
  unfold fX4_liveByRule
  refine zwl_b (wI_X4_begin h0 h1 h2 h3 h4 h5 h6 h7 h8 h9 h10 h11 hS) (fun r1 S3 e2 => ?_)
  refine zwl_b1 (zwl_lp (I := (fun q0 => q0.2.1 a b = S0.1 a b)) (Q := (Sum.elim (fun q1 => q1.1 a b = S0.1 a b) (fun q1 => q1.1 a b = S0.1 a b))) (fun a e5 => (wI_X4_liveByRule_l7 h2 h0 h4 h1 h11 h5 h12 h13 e5)) e2) (fun e30 e3 => ?_)
  refine zwl_m e3 (fun e30_0 e6 => ?_) (fun e30_1 e7 => ?_)
  · exact (wI_X4_liveByRule_b113  e6)
  · exact zwl_r e7
set_option maxHeartbeats 40000 in
set_option maxRecDepth 100000 in
theorem wI_X10_splitOne_b244 {T : zT} {k0 : Nat} {x3 : Int32} {x4 : Int32} {S S0 : zS} {a b : Nat} (h0 : ¬ a = zr T k0 0) (h1 : ¬ a = zr T k0 1) (h2 : ¬ a = zr T k0 2) (h3 : ¬ (a = k0 ∧ b = 3)) (hS : S.1 a b = S0.1 a b) : zwl (fX10_splitOne_b244 T k0 x3 x4 S) (fun q0 => q0.2.1 a b = S0.1 a b) := by
  unfold fX10_splitOne_b244
  refine zwl_t (fun r7 => ?_)
  refine zwl_b (wI_X10_add h0 h1 h2 h3 hS) (fun r1 S11 e2 => ?_)
  exact zwl_r e2
set_option maxHeartbeats 40000 in
set_option maxRecDepth 100000 in
theorem wI_X10_splitOne_b235 {T : zT} {x3 : Int32} {s0 : Int32} {s1 : Nat} {S S0 : zS} {a b : Nat} (h0 : ¬ a = zr T s1 0) (h1 : ¬ a = zr T s1 1) (h2 : ¬ a = zr T s1 2) (h3 : ¬ (a = s1 ∧ b = 3)) (hS : S.1 a b = S0.1 a b) : zwl (fX10_splitOne_b235 T x3 s0 s1 S) (fun q0 => q0.2.1 a b = S0.1 a b) := by
  unfold fX10_splitOne_b235
  refine zwl_b (wI_X10_add h0 h1 h2 h3 hS) (fun r1 S16 e2 => ?_)
  exact zwl_r e2
set_option maxHeartbeats 40000 in
set_option maxRecDepth 100000 in
theorem wI_X10_splitOne_b220 {T : zT} {k0 : Nat} {x3 : Int32} {x4 : Int32} {S S0 : zS} {a b : Nat} (h0 : ¬ a = zr T k0 0) (h1 : ¬ a = zr T k0 1) (h2 : ¬ a = zr T k0 2) (h3 : ¬ (a = k0 ∧ b = 3)) (hS : S.1 a b = S0.1 a b) : zwl (fX10_splitOne_b220 T k0 x3 x4 S) (fun q0 => q0.2.1 a b = S0.1 a b) := by
  unfold fX10_splitOne_b220
  refine zwl_i ?_ ?_
  · exact (wI_X10_splitOne_b235 h0 h1 h2 h3 hS)
  · exact (wI_X10_splitOne_b235 h0 h1 h2 h3 hS)
set_option maxHeartbeats 40000 in
set_option maxRecDepth 100000 in
theorem wI_X10_splitOne_b199 {T : zT} {k0 : Nat} {x3 : Int32} {x4 : Int32} {s0 : Int32} {S S0 : zS} {a b : Nat} (h0 : ¬ a = zr T k0 0) (h1 : ¬ a = zr T k0 1) (h2 : ¬ a = zr T k0 2) (h3 : ¬ (a = k0 ∧ b = 3)) (hS : S.1 a b = S0.1 a b) : zwl (fX10_splitOne_b199 T k0 x3 x4 s0 S) (fun q0 => q0.2.1 a b = S0.1 a b) := by
  unfold fX10_splitOne_b199
  refine zwl_i ?_ ?_
  · exact (wI_X10_splitOne_b244 h0 h1 h2 h3 hS)
  · refine zwl_i ?_ ?_
    · exact (wI_X10_splitOne_b220 h0 h1 h2 h3 hS)
    · refine zwl_i ?_ ?_
      · exact (wI_X10_splitOne_b220 h0 h1 h2 h3 hS)
      · exact (wI_X10_splitOne_b244 h0 h1 h2 h3 hS)
set_option maxHeartbeats 40000 in
set_option maxRecDepth 100000 in
theorem wI_X10_splitOne_b198 {T : zT} {k0 : Nat} {x3 : Int32} {x4 : Int32} {S S0 : zS} {a b : Nat} (h0 : ¬ a = zr T k0 0) (h1 : ¬ a = zr T k0 1) (h2 : ¬ a = zr T k0 2) (h3 : ¬ (a = k0 ∧ b = 3)) (hS : S.1 a b = S0.1 a b) : zwl (fX10_splitOne_b198 T k0 x3 x4 S) (fun q0 => q0.2.1 a b = S0.1 a b) := by
  unfold fX10_splitOne_b198
  exact (wI_X10_splitOne_b199 h0 h1 h2 h3 hS)
set_option maxHeartbeats 40000 in
set_option maxRecDepth 100000 in
theorem wI_X10_splitOne_b169 {T : zT} {k0 : Nat} {k1 : Nat} {n1 : Nat} {x2 : Int32} {x3 : Int32} {x4 : Int32} {S S0 : zS} {a b : Nat} (h0 : ¬ a = zr T k0 0) (h1 : ¬ a = zr T k0 1) (h2 : ¬ a = zr T k0 2) (h3 : ¬ (a = k0 ∧ b = 3)) (hS : S.1 a b = S0.1 a b) : zwl (fX10_splitOne_b169 T k0 k1 n1 x2 x3 x4 S) (fun q0 => q0.2.1 a b = S0.1 a b) := by
  unfold fX10_splitOne_b169
  refine zwl_i ?_ ?_
  · exact (wI_X10_splitOne_b198 h0 h1 h2 h3 hS)
  · refine zwl_i ?_ ?_
    · exact (wI_X10_splitOne_b198 h0 h1 h2 h3 hS)
    · refine zwl_g ?_
      refine zwl_i ?_ ?_
      · exact (wI_X10_splitOne_b199 h0 h1 h2 h3 hS)
      · exact (wI_X10_splitOne_b198 h0 h1 h2 h3 hS)
set_option maxHeartbeats 40000 in
set_option maxRecDepth 100000 in
theorem wI_X10_splitOne_b162 {T : zT} {x3 : Int32} {x5 : Int32} {s0 : Int32} {s1 : Int32} {s2 : Nat} {S S0 : zS} {a b : Nat} (h0 : ¬ a = zr T s2 0) (h1 : ¬ a = zr T s2 1) (h2 : ¬ a = zr T s2 2) (h3 : ¬ (a = s2 ∧ b = 3)) (hS : S.1 a b = S0.1 a b) : zwl (fX10_splitOne_b162 T x3 x5 s0 s1 s2 S) (fun q0 => q0.2.1 a b = S0.1 a b) := by
  unfold fX10_splitOne_b162
  refine zwl_b (wI_X10_add h0 h1 h2 h3 hS) (fun r1 S31 e2 => ?_)
  exact zwl_r e2
set_option maxHeartbeats 40000 in
set_option maxRecDepth 100000 in
theorem wI_X10_splitOne_b148 {T : zT} {x3 : Int32} {x4 : Int32} {x5 : Int32} {x6 : Int32} {s0 : Int32} {s1 : Nat} {S S0 : zS} {a b : Nat} (h0 : ¬ a = zr T s1 0) (h1 : ¬ a = zr T s1 1) (h2 : ¬ a = zr T s1 2) (h3 : ¬ (a = s1 ∧ b = 3)) (hS : S.1 a b = S0.1 a b) : zwl (fX10_splitOne_b148 T x3 x4 x5 x6 s0 s1 S) (fun q0 => q0.2.1 a b = S0.1 a b) := by
  unfold fX10_splitOne_b148
  refine zwl_i ?_ ?_
  · exact (wI_X10_splitOne_b162 h0 h1 h2 h3 hS)
  · exact (wI_X10_splitOne_b162 h0 h1 h2 h3 hS)
set_option maxHeartbeats 40000 in
set_option maxRecDepth 100000 in
theorem wI_X10_splitOne_b128 {T : zT} {k0 : Nat} {k1 : Nat} {n1 : Nat} {x3 : Int32} {x4 : Int32} {x5 : Int32} {s0 : Int32} {S S0 : zS} {a b : Nat} (h0 : ¬ a = zr T k0 0) (h1 : ¬ a = zr T k0 1) (h2 : ¬ a = zr T k0 2) (h3 : ¬ (a = k0 ∧ b = 3)) (hS : S.1 a b = S0.1 a b) : zwl (fX10_splitOne_b128 T k0 k1 n1 x3 x4 x5 s0 S) (fun q0 => q0.2.1 a b = S0.1 a b) := by
  unfold fX10_splitOne_b128
  refine zwl_i ?_ ?_
  · refine zwl_t (fun r26 => ?_)
    exact (wI_X10_splitOne_b148 h0 h1 h2 h3 hS)
  · exact (wI_X10_splitOne_b148 h0 h1 h2 h3 hS)
set_option maxHeartbeats 40000 in
set_option maxRecDepth 100000 in
theorem wI_X10_splitOne_b127 {T : zT} {k0 : Nat} {k1 : Nat} {n1 : Nat} {x3 : Int32} {x4 : Int32} {x5 : Int32} {S S0 : zS} {a b : Nat} (h0 : ¬ a = zr T k0 0) (h1 : ¬ a = zr T k0 1) (h2 : ¬ a = zr T k0 2) (h3 : ¬ (a = k0 ∧ b = 3)) (hS : S.1 a b = S0.1 a b) : zwl (fX10_splitOne_b127 T k0 k1 n1 x3 x4 x5 S) (fun q0 => q0.2.1 a b = S0.1 a b) := by
  unfold fX10_splitOne_b127
  exact (wI_X10_splitOne_b128 h0 h1 h2 h3 hS)
set_option maxHeartbeats 40000 in
set_option maxRecDepth 100000 in
theorem wI_X10_splitOne_b82 {T : zT} {k0 : Nat} {k1 : Nat} {n1 : Nat} {x2 : Int32} {x3 : Int32} {x4 : Int32} {S S0 : zS} {a b : Nat} (h0 : ¬ a = zr T k0 0) (h1 : ¬ a = zr T k0 1) (h2 : ¬ a = zr T k0 2) (h3 : ¬ (a = k0 ∧ b = 3)) (hS : S.1 a b = S0.1 a b) : zwl (fX10_splitOne_b82 T k0 k1 n1 x2 x3 x4 S) (fun q0 => q0.2.1 a b = S0.1 a b) := by
  unfold fX10_splitOne_b82
  refine zwl_i ?_ ?_
  · exact (wI_X10_splitOne_b169 h0 h1 h2 h3 hS)
  · refine zwl_i ?_ ?_
    · exact (wI_X10_splitOne_b169 h0 h1 h2 h3 hS)
    · refine zwl_t (fun r22 => ?_)
      refine zwl_i ?_ ?_
      · refine zwl_i ?_ ?_
        · exact (wI_X10_splitOne_b127 h0 h1 h2 h3 hS)
        · exact (wI_X10_splitOne_b128 h0 h1 h2 h3 hS)
      · exact (wI_X10_splitOne_b127 h0 h1 h2 h3 hS)
set_option maxHeartbeats 40000 in
set_option maxRecDepth 100000 in
theorem wI_X10_splitOne_b75 {T : zT} {x3 : Int32} {x5 : Int32} {s0 : Int32} {s1 : Int32} {s2 : Nat} {S S0 : zS} {a b : Nat} (h0 : ¬ a = zr T s2 0) (h1 : ¬ a = zr T s2 1) (h2 : ¬ a = zr T s2 2) (h3 : ¬ (a = s2 ∧ b = 3)) (hS : S.1 a b = S0.1 a b) : zwl (fX10_splitOne_b75 T x3 x5 s0 s1 s2 S) (fun q0 => q0.2.1 a b = S0.1 a b) := by
  unfold fX10_splitOne_b75
  refine zwl_b (wI_X10_add h0 h1 h2 h3 hS) (fun r1 S43 e2 => ?_)
  exact zwl_r e2
set_option maxHeartbeats 40000 in
set_option maxRecDepth 100000 in
theorem wI_X10_splitOne_b59 {T : zT} {k1 : Nat} {n1 : Nat} {x3 : Int32} {x5 : Int32} {x6 : Int32} {s0 : Int32} {s1 : Nat} {S S0 : zS} {a b : Nat} (h0 : ¬ a = zr T s1 0) (h1 : ¬ a = zr T s1 1) (h2 : ¬ a = zr T s1 2) (h3 : ¬ (a = s1 ∧ b = 3)) (hS : S.1 a b = S0.1 a b) : zwl (fX10_splitOne_b59 T k1 n1 x3 x5 x6 s0 s1 S) (fun q0 => q0.2.1 a b = S0.1 a b) := by
  unfold fX10_splitOne_b59
  refine zwl_i ?_ ?_
  · refine zwl_t (fun r39 => ?_)
    exact (wI_X10_splitOne_b75 h0 h1 h2 h3 hS)
  · exact (wI_X10_splitOne_b75 h0 h1 h2 h3 hS)
set_option maxHeartbeats 40000 in
set_option maxRecDepth 100000 in
theorem wI_X10_splitOne_b44 {T : zT} {k0 : Nat} {k1 : Nat} {n1 : Nat} {x3 : Int32} {x5 : Int32} {s0 : Int32} {S S0 : zS} {a b : Nat} (h0 : ¬ a = zr T k0 0) (h1 : ¬ a = zr T k0 1) (h2 : ¬ a = zr T k0 2) (h3 : ¬ (a = k0 ∧ b = 3)) (hS : S.1 a b = S0.1 a b) : zwl (fX10_splitOne_b44 T k0 k1 n1 x3 x5 s0 S) (fun q0 => q0.2.1 a b = S0.1 a b) := by
  unfold fX10_splitOne_b44
  refine zwl_i ?_ ?_
  · exact (wI_X10_splitOne_b59 h0 h1 h2 h3 hS)
  · exact (wI_X10_splitOne_b59 h0 h1 h2 h3 hS)
set_option maxHeartbeats 40000 in
set_option maxRecDepth 100000 in
theorem wI_X10_splitOne {T : zT} {k0 : Nat} {k1 : Nat} {n1 : Nat} {x2 : Int32} {x3 : Int32} {S S0 : zS} {a b : Nat} (h0 : ¬ a = zr T k0 0) (h1 : ¬ a = zr T k0 1) (h2 : ¬ a = zr T k0 2) (h3 : ¬ (a = k0 ∧ b = 3)) (hS : S.1 a b = S0.1 a b) : zwl (fX10_splitOne T k0 k1 n1 x2 x3 S) (fun q0 => q0.2.1 a b = S0.1 a b) := by
  unfold fX10_splitOne
  refine zwl_g ?_
  refine zwl_v (fun u2 => ?_)
  refine zwl_i ?_ ?_
  · exact (wI_X10_splitOne_b82 h0 h1 h2 h3 hS)
  · refine zwl_i ?_ ?_
    · exact (wI_X10_splitOne_b82 h0 h1 h2 h3 hS)
    · refine zwl_t (fun r34 => ?_)
      refine zwl_i ?_ ?_
      · exact (wI_X10_splitOne_b44 h0 h1 h2 h3 hS)
      · exact (wI_X10_splitOne_b44 h0 h1 h2 h3 hS)
set_option maxHeartbeats 40000 in
set_option maxRecDepth 100000 in
theorem wI_X11_judged {T : zT} {k0 : Nat} {x1 : Int32} {S S0 : zS} {a b : Nat} (h0 : ¬ (a = zr T k0 12 ∧ b = 3)) (h1 : ¬ (a = zr T k0 12 ∧ b = 4)) (h2 : ¬ (a = zr T k0 12 ∧ b = 5)) (h3 : ¬ (a = zr T k0 12 ∧ b = 6)) (h4 : ¬ (a = zr T k0 12 ∧ b = 7)) (h5 : ¬ (a = zr T k0 12 ∧ b = 8)) (h6 : ¬ (a = zr T k0 12 ∧ b = 15)) (h7 : ¬ (a = zr T k0 12 ∧ b = 16)) (h8 : ¬ a = zr T (zr T k0 12) 12) (h9 : ¬ a = zr T (zr T k0 12) 13) (h10 : ¬ a = zr T (zr T k0 12) 14) (h11 : ¬ a = zr T (zr T k0 12) 11) (h12 : ¬ a = zr T (zr T k0 12) 9) (h13 : ¬ a = zr T (zr T k0 12) 10) (hS : S.1 a b = S0.1 a b) : zwl (fX11_judged T k0 x1 S) (fun q0 => q0.2.1 a b = S0.1 a b) := by
  unfold fX11_judged
  refine zwl_b (wI_X4_liveByRow h0 h1 h2 h3 h4 h5 h6 h7 h8 h9 h10 h11 h12 h13 hS) (fun r1 S3 e2 => ?_)
  refine zwl_i ?_ ?_
  · exact zwl_r e2
  · refine zwl_i ?_ ?_
    · exact zwl_r e2
    · refine zwl_i ?_ ?_
      · exact zwl_r e2
      · refine zwl_i ?_ ?_
        · exact zwl_r e2
        · refine zwl_i ?_ ?_
          · exact zwl_r e2
          · exact zwl_r e2
set_option maxHeartbeats 40000 in
set_option maxRecDepth 100000 in
theorem wI_X11_then_b35 {T : zT} {S S0 : zS} {a b : Nat}  (hS : S.1 a b = S0.1 a b) : zwl (fX11_then_b35 T S) (fun q0 => q0.2.1 a b = S0.1 a b) := by
  unfold fX11_then_b35
  exact zwl_r hS
set_option maxHeartbeats 40000 in
set_option maxRecDepth 100000 in
theorem wI_X11_then_b71 {T : zT} {s0 : Int32} {S S0 : zS} {a b : Nat}  (hS : S.1 a b = S0.1 a b) : zwl (fX11_then_b71 T s0 S) (fun q0 => q0.2.1 a b = S0.1 a b) := by
  unfold fX11_then_b71
  exact zwl_r hS
set_option maxHeartbeats 40000 in
set_option maxRecDepth 100000 in
theorem wI_X11_then {T : zT} {k0 : Nat} {x1 : Int32} {x2 : Int32} {S S0 : zS} {a b : Nat} (h0 : ¬ (a = zr T k0 12 ∧ b = 3)) (h1 : ¬ (a = zr T k0 12 ∧ b = 4)) (h2 : ¬ (a = zr T k0 12 ∧ b = 5)) (h3 : ¬ (a = zr T k0 12 ∧ b = 6)) (h4 : ¬ (a = zr T k0 12 ∧ b = 7)) (h5 : ¬ (a = zr T k0 12 ∧ b = 8)) (h6 : ¬ (a = zr T k0 12 ∧ b = 15)) (h7 : ¬ (a = zr T k0 12 ∧ b = 16)) (h8 : ¬ a = zr T (zr T k0 12) 12) (h9 : ¬ a = zr T (zr T k0 12) 13) (h10 : ¬ a = zr T (zr T k0 12) 14) (h11 : ¬ a = zr T (zr T k0 12) 11) (h12 : ¬ a = zr T (zr T k0 12) 9) (h13 : ¬ a = zr T (zr T k0 12) 10) (hS : S.1 a b = S0.1 a b) : zwl (fX11_then T k0 x1 x2 S) (fun q0 => q0.2.1 a b = S0.1 a b) := by
  unfold fX11_then
  refine zwl_b (wI_X4_liveByRow h0 h1 h2 h3 h4 h5 h6 h7 h8 h9 h10 h11 h12 h13 hS) (fun r1 S3 e2 => ?_)
  refine zwl_i ?_ ?_
  · exact (wI_X11_then_b35  e2)
  · refine zwl_i ?_ ?_
    · exact (wI_X11_then_b35  e2)
    · refine zwl_i ?_ ?_
      · refine zwl_i ?_ ?_
        · refine zwl_g ?_
          exact zwl_r e2
        · refine zwl_i ?_ ?_
          · refine zwl_g ?_
            exact (wI_X11_then_b71  e2)
          · exact (wI_X11_then_b71  e2)
      · exact (wI_X11_then_b35  e2)
set_option maxHeartbeats 40000 in
set_option maxRecDepth 100000 in
theorem wI_X11_readyPlans {T : zT} {k0 : Nat} {S S0 : zS} {a b : Nat} (h0 : ¬ a = zr T (zr T k0 13) 13) (h1 : ¬ a = zr T (zr T k0 13) 14) (h2 : ¬ a = zr T (zr T k0 13) 9) (h3 : ¬ a = zr T (zr T k0 13) 11) (h4 : ¬ (a = zr T k0 13 ∧ b = 5)) (h5 : ¬ (a = zr T k0 13 ∧ b = 6)) (h6 : ¬ a = zr T (zr T k0 13) 8) (h7 : ¬ (a = zr T k0 13 ∧ b = 3)) (h8 : ¬ (a = zr T k0 13 ∧ b = 4)) (h9 : ¬ a = zr T (zr T k0 13) 7) (h10 : ¬ (a = zr T k0 13 ∧ b = 2)) (h11 : ¬ a = zr T (zr T k0 13) 10) (hS : S.1 a b = S0.1 a b) : zwl (fX11_readyPlans T k0 S) (fun q0 => q0.2.1 a b = S0.1 a b) := by
  unfold fX11_readyPlans
  refine zwl_b (wI_X5_prepare h0 h1 h2 h3 h4 h5 h6 h7 h8 h9 h10 h11 hS) (fun r1 S3 e2 => ?_)
  exact zwl_r e2
set_option maxHeartbeats 40000 in
set_option maxRecDepth 100000 in
theorem wI_X11_holds_b75 {T : zT} {k0 : Nat} {x2 : Int32} {x3 : Int32} {x4 : Int32} {S S0 : zS} {a b : Nat}  (hS : S.1 a b = S0.1 a b) : zwl (fX11_holds_b75 T k0 x2 x3 x4 S) (Sum.elim (fun q1 => q1.2.2.1 a b = S0.1 a b) (fun q1 => q1.2.1 a b = S0.1 a b)) := by
  unfold fX11_holds_b75
  refine zwl_v (fun u15 => ?_)
  exact zwl_r hS
set_option maxHeartbeats 40000 in
set_option maxRecDepth 100000 in
theorem wI_X11_holds_l24 {T : zT} {k0 : Nat} {x2 : Int32} {x3 : Int32} {x4 : Int32} {S S0 : zS} {a b : Nat} (h0 : ¬ (a = zr T k0 12 ∧ b = 3)) (h1 : ¬ (a = zr T k0 12 ∧ b = 4)) (h2 : ¬ (a = zr T k0 12 ∧ b = 5)) (h3 : ¬ (a = zr T k0 12 ∧ b = 6)) (h4 : ¬ (a = zr T k0 12 ∧ b = 7)) (h5 : ¬ (a = zr T k0 12 ∧ b = 8)) (h6 : ¬ (a = zr T k0 12 ∧ b = 15)) (h7 : ¬ (a = zr T k0 12 ∧ b = 16)) (h8 : ¬ a = zr T (zr T k0 12) 12) (h9 : ¬ a = zr T (zr T k0 12) 13) (h10 : ¬ a = zr T (zr T k0 12) 14) (h11 : ¬ a = zr T (zr T k0 12) 11) (h12 : ¬ a = zr T (zr T k0 12) 9) (h13 : ¬ a = zr T (zr T k0 12) 10) (hS : S.1 a b = S0.1 a b) : zwl (fX11_holds_l24 T k0 x2 x3 x4 S) (Sum.elim (fun q1 => q1.2.2.1 a b = S0.1 a b) (fun q1 => q1.2.1 a b = S0.1 a b)) := by
  unfold fX11_holds_l24
  refine zwl_i ?_ ?_
  · exact zwl_r hS
  · refine zwl_b (wI_X3_work  hS) (fun r6 S8 e1 => ?_)
    refine zwl_b (wI_X4_liveByRow h0 h1 h2 h3 h4 h5 h6 h7 h8 h9 h10 h11 h12 h13 e1) (fun r2 S11 e3 => ?_)
    refine zwl_t (fun r12 => ?_)
    refine zwl_i ?_ ?_
    · exact (wI_X11_holds_b75  e3)
    · refine zwl_v (fun u16 => ?_)
      exact (wI_X11_holds_b75  e3)
set_option maxHeartbeats 40000 in
set_option maxRecDepth 100000 in
theorem wI_X11_holds {T : zT} {k0 : Nat} {x1 : Int32} {x2 : Int32} {S S0 : zS} {a b : Nat} (h0 : ¬ (a = zr T k0 12 ∧ b = 3)) (h1 : ¬ (a = zr T k0 12 ∧ b = 4)) (h2 : ¬ (a = zr T k0 12 ∧ b = 5)) (h3 : ¬ (a = zr T k0 12 ∧ b = 6)) (h4 : ¬ (a = zr T k0 12 ∧ b = 7)) (h5 : ¬ (a = zr T k0 12 ∧ b = 8)) (h6 : ¬ (a = zr T k0 12 ∧ b = 15)) (h7 : ¬ (a = zr T k0 12 ∧ b = 16)) (h8 : ¬ a = zr T (zr T k0 12) 12) (h9 : ¬ a = zr T (zr T k0 12) 13) (h10 : ¬ a = zr T (zr T k0 12) 14) (h11 : ¬ a = zr T (zr T k0 12) 11) (h12 : ¬ a = zr T (zr T k0 12) 9) (h13 : ¬ a = zr T (zr T k0 12) 10) (hS : S.1 a b = S0.1 a b) : zwl (fX11_holds T k0 x1 x2 S) (fun q0 => q0.2.1 a b = S0.1 a b) := by
  unfold fX11_holds
  refine zwl_t (fun r1 => ?_)
  refine zwl_i ?_ ?_
  · exact zwl_r hS
  · refine zwl_sIn hS (fun S4 e1 => ?_)
    refine zwl_b1 (zwl_lp (I := (fun q0 => q0.2.2.1 a b = S0.1 a b)) (Q := (fun q0 => q0.2.1 a b = S0.1 a b)) (fun a e4 => (wI_X11_holds_l24 h0 h1 h2 h3 h4 h5 h6 h7 h8 h9 h10 h11 h12 h13 e4)) e1) (fun e17 e2 => ?_)
    exact zwl_r e2
set_option maxHeartbeats 40000 in
set_option maxRecDepth 100000 in
theorem wI_X11_surely_b72 {T : zT} {k0 : Nat} {x1 : Int32} {x2 : Int32} {S S0 : zS} {a b : Nat}  (hS : S.1 a b = S0.1 a b) : zwl (fX11_surely_b72 T k0 x1 x2 S) (Sum.elim (fun q1 => q1.2.2.1 a b = S0.1 a b) (fun q1 => q1.2.1 a b = S0.1 a b)) := by
  unfold fX11_surely_b72
  refine zwl_v (fun u6 => ?_)
  exact zwl_r hS
set_option maxHeartbeats 40000 in
set_option maxRecDepth 100000 in
theorem wI_X11_surely_b70 {T : zT} {k0 : Nat} {x2 : Int32} {s0 : Int32} {s1 : Int32} {S S0 : zS} {a b : Nat}  (hS : S.1 a b = S0.1 a b) : zwl (fX11_surely_b70 T k0 x2 s0 s1 S) (Sum.elim (fun q1 => q1.2.2.1 a b = S0.1 a b) (fun q1 => q1.2.1 a b = S0.1 a b)) := by
  unfold fX11_surely_b70
  refine zwl_v (fun u13 => ?_)
  exact (wI_X11_surely_b72  hS)
set_option maxHeartbeats 40000 in
set_option maxRecDepth 100000 in
theorem wI_X11_surely_l18 {T : zT} {k0 : Nat} {x1 : Int32} {x2 : Int32} {S S0 : zS} {a b : Nat} (h0 : ¬ (a = zr T k0 12 ∧ b = 3)) (h1 : ¬ (a = zr T k0 12 ∧ b = 4)) (h2 : ¬ (a = zr T k0 12 ∧ b = 5)) (h3 : ¬ (a = zr T k0 12 ∧ b = 6)) (h4 : ¬ (a = zr T k0 12 ∧ b = 7)) (h5 : ¬ (a = zr T k0 12 ∧ b = 8)) (h6 : ¬ (a = zr T k0 12 ∧ b = 15)) (h7 : ¬ (a = zr T k0 12 ∧ b = 16)) (h8 : ¬ a = zr T (zr T k0 12) 12) (h9 : ¬ a = zr T (zr T k0 12) 13) (h10 : ¬ a = zr T (zr T k0 12) 14) (h11 : ¬ a = zr T (zr T k0 12) 11) (h12 : ¬ a = zr T (zr T k0 12) 9) (h13 : ¬ a = zr T (zr T k0 12) 10) (hS : S.1 a b = S0.1 a b) : zwl (fX11_surely_l18 T k0 x1 x2 S) (Sum.elim (fun q1 => q1.2.2.1 a b = S0.1 a b) (fun q1 => q1.2.1 a b = S0.1 a b)) := by
  unfold fX11_surely_l18
  refine zwl_i ?_ ?_
  · exact zwl_r hS
  · refine zwl_t (fun r3 => ?_)
    refine zwl_i ?_ ?_
    · exact (wI_X11_surely_b72  hS)
    · refine zwl_b (wI_X4_liveByRow h0 h1 h2 h3 h4 h5 h6 h7 h8 h9 h10 h11 h12 h13 hS) (fun r1 S9 e2 => ?_)
      refine zwl_t (fun r10 => ?_)
      refine zwl_i ?_ ?_
      · exact (wI_X11_surely_b70  e2)
      · exact (wI_X11_surely_b70  e2)
set_option maxHeartbeats 40000 in
set_option maxRecDepth 100000 in
theorem wI_X11_surely {T : zT} {k0 : Nat} {S S0 : zS} {a b : Nat} (h0 : ¬ (a = zr T k0 12 ∧ b = 3)) (h1 : ¬ (a = zr T k0 12 ∧ b = 4)) (h2 : ¬ (a = zr T k0 12 ∧ b = 5)) (h3 : ¬ (a = zr T k0 12 ∧ b = 6)) (h4 : ¬ (a = zr T k0 12 ∧ b = 7)) (h5 : ¬ (a = zr T k0 12 ∧ b = 8)) (h6 : ¬ (a = zr T k0 12 ∧ b = 15)) (h7 : ¬ (a = zr T k0 12 ∧ b = 16)) (h8 : ¬ a = zr T (zr T k0 12) 12) (h9 : ¬ a = zr T (zr T k0 12) 13) (h10 : ¬ a = zr T (zr T k0 12) 14) (h11 : ¬ a = zr T (zr T k0 12) 11) (h12 : ¬ a = zr T (zr T k0 12) 9) (h13 : ¬ a = zr T (zr T k0 12) 10) (hS : S.1 a b = S0.1 a b) : zwl (fX11_surely T k0 S) (fun q0 => q0.2.1 a b = S0.1 a b) := by
  unfold fX11_surely
  refine zwl_i ?_ ?_
  · refine zwl_b1 (zwl_lp (I := (fun q0 => q0.2.2.1 a b = S0.1 a b)) (Q := (fun q0 => q0.2.1 a b = S0.1 a b)) (fun a e3 => (wI_X11_surely_l18 h0 h1 h2 h3 h4 h5 h6 h7 h8 h9 h10 h11 h12 h13 e3)) hS) (fun e14 e1 => ?_)
    exact zwl_r e1
  · exact zwl_r hS
set_option maxHeartbeats 40000 in
set_option maxRecDepth 100000 in
theorem wI_X12_term_b49 {T : zT} {k0 : Nat} {s0 : Int32} {S S0 : zS} {a b : Nat} (h0 : ¬ (a = k0 ∧ b = 2)) (h1 : ¬ (a = k0 ∧ b = 3)) (h2 : ¬ (a = k0 ∧ b = 8)) (h3 : ¬ a = zr T k0 12) (h4 : ¬ a = zr T k0 13) (h5 : ¬ (a = k0 ∧ b = 6)) (hS : S.1 a b = S0.1 a b) : zwl (fX12_term_b49 T k0 s0 S) (Sum.elim (fun q1 => q1.1 a b = S0.1 a b) (fun q1 => q1.1 a b = S0.1 a b)) := by
  unfold fX12_term_b49
  refine zwl_sIf h0 hS (fun S14 e1 => ?_)
  refine zwl_b (wI_X12_value h0 h1 h2 h3 h4 h5 e1) (fun r2 S17 e3 => ?_)
  refine zwl_b (wI_X12_entry h3 h4 h5 e3) (fun r4 S20 e5 => ?_)
  refine zwl_b (wI_X12_blanks h0 e5) (fun r6 S23 e7 => ?_)
  exact zwl_r e7
set_option maxHeartbeats 40000 in
set_option maxRecDepth 100000 in
theorem wI_X12_term_b33 {T : zT} {k0 : Nat} {S S0 : zS} {a b : Nat} (h0 : ¬ (a = k0 ∧ b = 2)) (h1 : ¬ (a = k0 ∧ b = 3)) (h2 : ¬ (a = k0 ∧ b = 8)) (h3 : ¬ a = zr T k0 12) (h4 : ¬ a = zr T k0 13) (h5 : ¬ (a = k0 ∧ b = 6)) (hS : S.1 a b = S0.1 a b) : zwl (fX12_term_b33 T k0 S) (Sum.elim (fun q1 => q1.1 a b = S0.1 a b) (fun q1 => q1.1 a b = S0.1 a b)) := by
  unfold fX12_term_b33
  refine zwl_t (fun r11 => ?_)
  refine zwl_i ?_ ?_
  · exact (wI_X12_term_b49 h0 h1 h2 h3 h4 h5 hS)
  · exact (wI_X12_term_b49 h0 h1 h2 h3 h4 h5 hS)
set_option maxHeartbeats 40000 in
set_option maxRecDepth 100000 in
theorem wI_X12_term_l8 {T : zT} {k0 : Nat} {S S0 : zS} {a b : Nat} (h0 : ¬ (a = k0 ∧ b = 2)) (h1 : ¬ (a = k0 ∧ b = 3)) (h2 : ¬ (a = k0 ∧ b = 8)) (h3 : ¬ a = zr T k0 12) (h4 : ¬ a = zr T k0 13) (h5 : ¬ (a = k0 ∧ b = 6)) (hS : S.1 a b = S0.1 a b) : zwl (fX12_term_l8 T k0 S) (Sum.elim (fun q1 => q1.1 a b = S0.1 a b) (fun q1 => q1.1 a b = S0.1 a b)) := by
  unfold fX12_term_l8
  refine zwl_i ?_ ?_
  · refine zwl_t (fun r8 => ?_)
    refine zwl_i ?_ ?_
    · exact (wI_X12_term_b33 h0 h1 h2 h3 h4 h5 hS)
    · refine zwl_t (fun r24 => ?_)
      refine zwl_i ?_ ?_
      · exact (wI_X12_term_b33 h0 h1 h2 h3 h4 h5 hS)
      · exact zwl_r hS
  · exact zwl_r hS
set_option maxHeartbeats 40000 in
set_option maxRecDepth 100000 in
theorem wI_X12_term_b77 {T : zT} {S S0 : zS} {a b : Nat}  (hS : S.1 a b = S0.1 a b) : zwl (fX12_term_b77 T S) (fun q0 => q0.2.1 a b = S0.1 a b) := by
  unfold fX12_term_b77
  exact zwl_r hS
set_option maxHeartbeats 40000 in
set_option maxRecDepth 100000 in
theorem wI_X12_term {T : zT} {k0 : Nat} {S S0 : zS} {a b : Nat} (h0 : ¬ (a = k0 ∧ b = 2)) (h1 : ¬ (a = k0 ∧ b = 3)) (h2 : ¬ (a = k0 ∧ b = 8)) (h3 : ¬ a = zr T k0 12) (h4 : ¬ a = zr T k0 13) (h5 : ¬ (a = k0 ∧ b = 6)) (hS : S.1 a b = S0.1 a b) : zwl (fX12_term T k0 S) (fun q0 => q0.2.1 a b = S0.1 a b) := by
  unfold fX12_term
  refine zwl_b (wI_X12_value h0 h1 h2 h3 h4 h5 hS) (fun r1 S3 e2 => ?_)
  refine zwl_b (wI_X12_blanks h0 e2) (fun r3 S6 e4 => ?_)
  refine zwl_b1 (zwl_lp (I := (fun q0 => q0.1 a b = S0.1 a b)) (Q := (fun q0 => q0.1 a b = S0.1 a b)) (fun a e7 => (wI_X12_term_l8 h0 h1 h2 h3 h4 h5 e7)) e4) (fun e27 e5 => ?_)
  exact (wI_X12_term_b77  e5)
set_option maxHeartbeats 40000 in
set_option maxRecDepth 100000 in
theorem wI_X12_onceClause_b119 {T : zT} {S S0 : zS} {a b : Nat}  (hS : S.1 a b = S0.1 a b) : zwl (fX12_onceClause_b119 T S) (fun q0 => q0.2.1 a b = S0.1 a b) := by
  unfold fX12_onceClause_b119
  exact zwl_r hS
set_option maxHeartbeats 40000 in
set_option maxRecDepth 100000 in
theorem wI_X12_onceClause_b106 {T : zT} {k0 : Nat} {S S0 : zS} {a b : Nat} (h0 : ¬ (a = k0 ∧ b = 2)) (h1 : ¬ (a = k0 ∧ b = 3)) (h2 : ¬ a = zr T k0 31) (hS : S.1 a b = S0.1 a b) : zwl (fX12_onceClause_b106 T k0 S) (fun q0 => q0.2.1 a b = S0.1 a b) := by
  unfold fX12_onceClause_b106
  refine zwl_b (wI_X12_amount h0 h1 hS) (fun r10 S12 e1 => ?_)
  refine zwl_g ?_
  refine zwl_sIa h2 e1 (fun S14 e2 => ?_)
  exact (wI_X12_onceClause_b119  e2)
set_option maxHeartbeats 40000 in
set_option maxRecDepth 100000 in
theorem wI_X12_onceClause {T : zT} {k0 : Nat} {x1 : Int32} {S S0 : zS} {a b : Nat} (h0 : ¬ (a = k0 ∧ b = 2)) (h1 : ¬ (a = k0 ∧ b = 3)) (h2 : ¬ a = zr T k0 29) (h3 : ¬ a = zr T k0 32) (h4 : ¬ a = zr T k0 33) (h5 : ¬ a = zr T k0 30) (h6 : ¬ a = zr T k0 31) (hS : S.1 a b = S0.1 a b) : zwl (fX12_onceClause T k0 x1 S) (fun q0 => q0.2.1 a b = S0.1 a b) := by
  unfold fX12_onceClause
  refine zwl_i ?_ ?_
  · refine zwl_b (wI_X12_amount h0 h1 hS) (fun r32 S34 e1 => ?_)
    refine zwl_g ?_
    refine zwl_sIa h2 e1 (fun S36 e2 => ?_)
    exact (wI_X12_onceClause_b119  e2)
  · refine zwl_i ?_ ?_
    · refine zwl_b (wI_X12_amount h0 h1 hS) (fun r27 S29 e3 => ?_)
      refine zwl_g ?_
      refine zwl_sIa h3 e3 (fun S31 e4 => ?_)
      exact (wI_X12_onceClause_b119  e4)
    · refine zwl_i ?_ ?_
      · refine zwl_b (wI_X12_amount h0 h1 hS) (fun r22 S24 e5 => ?_)
        refine zwl_g ?_
        refine zwl_sIa h4 e5 (fun S26 e6 => ?_)
        exact (wI_X12_onceClause_b119  e6)
      · refine zwl_b (wI_X12_amount h0 h1 hS) (fun r4 S6 e7 => ?_)
        refine zwl_g ?_
        refine zwl_sIa h5 e7 (fun S8 e8 => ?_)
        refine zwl_i ?_ ?_
        · refine zwl_b (wI_X12_takes h0 e8) (fun r15 S17 e9 => ?_)
          refine zwl_i ?_ ?_
          · refine zwl_b (wI_X12_fails h1 e9) (fun r10 S21 e11 => ?_)
            exact (wI_X12_onceClause_b106 h0 h1 h6 e11)
          · exact (wI_X12_onceClause_b106 h0 h1 h6 e9)
        · exact (wI_X12_onceClause_b106 h0 h1 h6 e8)
set_option maxHeartbeats 40000 in
set_option maxRecDepth 100000 in
theorem wI_X12_judged {T : zT} {k0 : Nat} {x1 : Int32} {S S0 : zS} {a b : Nat} (h0 : ¬ a = zr T k0 40) (h1 : ¬ a = zr T k0 41) (h2 : ¬ a = zr T k0 42) (h3 : ¬ a = zr T k0 43) (h4 : ¬ a = zr T k0 46) (h5 : ¬ (a = k0 ∧ b = 48)) (h6 : ¬ (a = k0 ∧ b = 47)) (h7 : ¬ (a = k0 ∧ b = 49)) (h8 : ¬ (a = k0 ∧ b = 50)) (h9 : ¬ (a = k0 ∧ b = 51)) (h10 : ¬ a = zr T k0 44) (h11 : ¬ a = zr T k0 45) (hS : S.1 a b = S0.1 a b) : zwl (fX12_judged T k0 x1 S) (fun q0 => q0.2.1 a b = S0.1 a b) := by
  unfold fX12_judged
  refine zwl_b (wI_X12_goesBy h0 h1 h2 h3 h4 h5 h6 h7 h8 h9 h10 h11 hS) (fun r1 S3 e2 => ?_)
  refine zwl_i ?_ ?_
  · exact zwl_r e2
  · refine zwl_i ?_ ?_
    · exact zwl_r e2
    · refine zwl_i ?_ ?_
      · exact zwl_r e2
      · refine zwl_i ?_ ?_
        · refine zwl_t (fun r8 => ?_)
          exact zwl_r e2
        · refine zwl_i ?_ ?_
          · refine zwl_t (fun r11 => ?_)
            exact zwl_r e2
          · exact zwl_r e2
set_option maxHeartbeats 40000 in
set_option maxRecDepth 100000 in
theorem wI_X12_then_b56 {T : zT} {s0 : Int32} {S S0 : zS} {a b : Nat}  (hS : S.1 a b = S0.1 a b) : zwl (fX12_then_b56 T s0 S) (fun q0 => q0.2.1 a b = S0.1 a b) := by
  unfold fX12_then_b56
  exact zwl_r hS
set_option maxHeartbeats 40000 in
set_option maxRecDepth 100000 in
theorem wI_X12_then_b32 {T : zT} {S S0 : zS} {a b : Nat}  (hS : S.1 a b = S0.1 a b) : zwl (fX12_then_b32 T S) (fun q0 => q0.2.1 a b = S0.1 a b) := by
  unfold fX12_then_b32
  exact (wI_X12_then_b56  hS)
set_option maxHeartbeats 40000 in
set_option maxRecDepth 100000 in
theorem wI_X12_then {T : zT} {k0 : Nat} {x1 : Int32} {x2 : Int32} {S S0 : zS} {a b : Nat} (h0 : ¬ a = zr T k0 40) (h1 : ¬ a = zr T k0 41) (h2 : ¬ a = zr T k0 42) (h3 : ¬ a = zr T k0 43) (h4 : ¬ a = zr T k0 46) (h5 : ¬ (a = k0 ∧ b = 48)) (h6 : ¬ (a = k0 ∧ b = 47)) (h7 : ¬ (a = k0 ∧ b = 49)) (h8 : ¬ (a = k0 ∧ b = 50)) (h9 : ¬ (a = k0 ∧ b = 51)) (h10 : ¬ a = zr T k0 44) (h11 : ¬ a = zr T k0 45) (hS : S.1 a b = S0.1 a b) : zwl (fX12_then T k0 x1 x2 S) (fun q0 => q0.2.1 a b = S0.1 a b) := by
  unfold fX12_then
  refine zwl_b (wI_X12_goesBy h0 h1 h2 h3 h4 h5 h6 h7 h8 h9 h10 h11 hS) (fun r1 S3 e2 => ?_)
  refine zwl_t (fun r4 => ?_)
  refine zwl_i ?_ ?_
  · exact (wI_X12_then_b32  e2)
  · refine zwl_t (fun r7 => ?_)
    refine zwl_i ?_ ?_
    · exact (wI_X12_then_b32  e2)
    · refine zwl_i ?_ ?_
      · refine zwl_g ?_
        exact (wI_X12_then_b56  e2)
      · refine zwl_g ?_
        exact (wI_X12_then_b56  e2)
set_option maxHeartbeats 40000 in
set_option maxRecDepth 100000 in
theorem wI_X12_holds_b16 {T : zT} {S S0 : zS} {a b : Nat}  (hS : S.1 a b = S0.1 a b) : zwl (fX12_holds_b16 T S) (fun q0 => q0.2.1 a b = S0.1 a b) := by
  unfold fX12_holds_b16
  exact zwl_r hS
set_option maxHeartbeats 40000 in
set_option maxRecDepth 100000 in
theorem wI_X12_holds_b63 {T : zT} {k0 : Nat} {x2 : Int32} {x4 : Int32} {s0 : Int32} {s1 : Int32} {S S0 : zS} {a b : Nat}  (hS : S.1 a b = S0.1 a b) : zwl (fX12_holds_b63 T k0 x2 x4 s0 s1 S) (Sum.elim (fun q1 => q1.2.2.1 a b = S0.1 a b) (fun q1 => q1.2.1 a b = S0.1 a b)) := by
  unfold fX12_holds_b63
  refine zwl_v (fun u11 => ?_)
  refine zwl_v (fun u12 => ?_)
  exact zwl_r hS
set_option maxHeartbeats 40000 in
set_option maxRecDepth 100000 in
theorem wI_X12_holds_b62 {T : zT} {k0 : Nat} {x2 : Int32} {x4 : Int32} {s0 : Int32} {S S0 : zS} {a b : Nat}  (hS : S.1 a b = S0.1 a b) : zwl (fX12_holds_b62 T k0 x2 x4 s0 S) (Sum.elim (fun q1 => q1.2.2.1 a b = S0.1 a b) (fun q1 => q1.2.1 a b = S0.1 a b)) := by
  unfold fX12_holds_b62
  exact (wI_X12_holds_b63  hS)
set_option maxHeartbeats 40000 in
set_option maxRecDepth 100000 in
theorem wI_X12_holds_l29 {T : zT} {k0 : Nat} {x2 : Int32} {x3 : Int32} {x4 : Int32} {S S0 : zS} {a b : Nat} (h0 : ¬ a = zr T k0 40) (h1 : ¬ a = zr T k0 41) (h2 : ¬ a = zr T k0 42) (h3 : ¬ a = zr T k0 43) (h4 : ¬ a = zr T k0 46) (h5 : ¬ (a = k0 ∧ b = 48)) (h6 : ¬ (a = k0 ∧ b = 47)) (h7 : ¬ (a = k0 ∧ b = 49)) (h8 : ¬ (a = k0 ∧ b = 50)) (h9 : ¬ (a = k0 ∧ b = 51)) (h10 : ¬ a = zr T k0 44) (h11 : ¬ a = zr T k0 45) (hS : S.1 a b = S0.1 a b) : zwl (fX12_holds_l29 T k0 x2 x3 x4 S) (Sum.elim (fun q1 => q1.2.2.1 a b = S0.1 a b) (fun q1 => q1.2.1 a b = S0.1 a b)) := by
  unfold fX12_holds_l29
  refine zwl_i ?_ ?_
  · exact zwl_r hS
  · refine zwl_b (wI_X12_goesBy h0 h1 h2 h3 h4 h5 h6 h7 h8 h9 h10 h11 hS) (fun r1 S9 e2 => ?_)
    refine zwl_i ?_ ?_
    · refine zwl_i ?_ ?_
      · exact (wI_X12_holds_b63  e2)
      · exact (wI_X12_holds_b62  e2)
    · exact (wI_X12_holds_b62  e2)
set_option maxHeartbeats 40000 in
set_option maxRecDepth 100000 in
theorem wI_X12_holds {T : zT} {k0 : Nat} {x1 : Int32} {x2 : Int32} {S S0 : zS} {a b : Nat} (h0 : ¬ a = zr T k0 40) (h1 : ¬ a = zr T k0 41) (h2 : ¬ a = zr T k0 42) (h3 : ¬ a = zr T k0 43) (h4 : ¬ a = zr T k0 46) (h5 : ¬ (a = k0 ∧ b = 48)) (h6 : ¬ (a = k0 ∧ b = 47)) (h7 : ¬ (a = k0 ∧ b = 49)) (h8 : ¬ (a = k0 ∧ b = 50)) (h9 : ¬ (a = k0 ∧ b = 51)) (h10 : ¬ a = zr T k0 44) (h11 : ¬ a = zr T k0 45) (hS : S.1 a b = S0.1 a b) : zwl (fX12_holds T k0 x1 x2 S) (fun q0 => q0.2.1 a b = S0.1 a b) := by
  unfold fX12_holds
  refine zwl_i ?_ ?_
  · exact (wI_X12_holds_b16  hS)
  · refine zwl_t (fun r2 => ?_)
    refine zwl_i ?_ ?_
    · exact (wI_X12_holds_b16  hS)
    · refine zwl_sIn hS (fun S5 e1 => ?_)
      refine zwl_b1 (zwl_lp (I := (fun q0 => q0.2.2.1 a b = S0.1 a b)) (Q := (fun q0 => q0.2.1 a b = S0.1 a b)) (fun a e4 => (wI_X12_holds_l29 h0 h1 h2 h3 h4 h5 h6 h7 h8 h9 h10 h11 e4)) e1) (fun e14 e2 => ?_)
      exact zwl_r e2
set_option maxHeartbeats 40000 in
set_option maxRecDepth 100000 in
theorem wI_X12_surely_b122 {T : zT} {k0 : Nat} {x3 : Int32} {s0 : Int64} {s1 : Int64} {S S0 : zS} {a b : Nat}  (hS : S.1 a b = S0.1 a b) : zwl (fX12_surely_b122 T k0 x3 s0 s1 S) (Sum.elim (fun q1 => q1.2.2.1 a b = S0.1 a b) (fun q1 => q1.2.1 a b = S0.1 a b)) := by
  unfold fX12_surely_b122
  refine zwl_v (fun w17 => ?_)
  refine zwl_v (fun u18 => ?_)
  exact zwl_r hS
set_option maxHeartbeats 40000 in
set_option maxRecDepth 100000 in
theorem wI_X12_surely_b121 {T : zT} {k0 : Nat} {x3 : Int32} {s0 : Int64} {S S0 : zS} {a b : Nat}  (hS : S.1 a b = S0.1 a b) : zwl (fX12_surely_b121 T k0 x3 s0 S) (Sum.elim (fun q1 => q1.2.2.1 a b = S0.1 a b) (fun q1 => q1.2.1 a b = S0.1 a b)) := by
  unfold fX12_surely_b121
  exact (wI_X12_surely_b122  hS)
set_option maxHeartbeats 40000 in
set_option maxRecDepth 100000 in
theorem wI_X12_surely_l17 {T : zT} {k0 : Nat} {l1 : Int64} {x3 : Int32} {S S0 : zS} {a b : Nat} (h0 : ¬ a = zr T k0 40) (h1 : ¬ a = zr T k0 41) (h2 : ¬ a = zr T k0 42) (h3 : ¬ a = zr T k0 43) (h4 : ¬ a = zr T k0 46) (h5 : ¬ (a = k0 ∧ b = 48)) (h6 : ¬ (a = k0 ∧ b = 47)) (h7 : ¬ (a = k0 ∧ b = 49)) (h8 : ¬ (a = k0 ∧ b = 50)) (h9 : ¬ (a = k0 ∧ b = 51)) (h10 : ¬ a = zr T k0 44) (h11 : ¬ a = zr T k0 45) (hS : S.1 a b = S0.1 a b) : zwl (fX12_surely_l17 T k0 l1 x3 S) (Sum.elim (fun q1 => q1.2.2.1 a b = S0.1 a b) (fun q1 => q1.2.1 a b = S0.1 a b)) := by
  unfold fX12_surely_l17
  refine zwl_g ?_
  refine zwl_i ?_ ?_
  · exact zwl_r hS
  · refine zwl_t (fun e12 => ?_)
    refine zwl_b (wI_X12_goesBy h0 h1 h2 h3 h4 h5 h6 h7 h8 h9 h10 h11 hS) (fun r1 S15 e2 => ?_)
    refine zwl_i ?_ ?_
    · refine zwl_i ?_ ?_
      · exact (wI_X12_surely_b122  e2)
      · exact (wI_X12_surely_b121  e2)
    · exact (wI_X12_surely_b121  e2)
set_option maxHeartbeats 40000 in
set_option maxRecDepth 100000 in
theorem wI_X12_surely {T : zT} {k0 : Nat} {S S0 : zS} {a b : Nat} (h0 : ¬ a = zr T k0 40) (h1 : ¬ a = zr T k0 41) (h2 : ¬ a = zr T k0 42) (h3 : ¬ a = zr T k0 43) (h4 : ¬ a = zr T k0 46) (h5 : ¬ (a = k0 ∧ b = 48)) (h6 : ¬ (a = k0 ∧ b = 47)) (h7 : ¬ (a = k0 ∧ b = 49)) (h8 : ¬ (a = k0 ∧ b = 50)) (h9 : ¬ (a = k0 ∧ b = 51)) (h10 : ¬ a = zr T k0 44) (h11 : ¬ a = zr T k0 45) (hS : S.1 a b = S0.1 a b) : zwl (fX12_surely T k0 S) (fun q0 => q0.2.1 a b = S0.1 a b) := by
  unfold fX12_surely
  refine zwl_g ?_
  refine zwl_i ?_ ?_
  · refine zwl_b1 (zwl_lp (I := (fun q0 => q0.2.2.1 a b = S0.1 a b)) (Q := (fun q0 => q0.2.1 a b = S0.1 a b)) (fun a e3 => (wI_X12_surely_l17 h0 h1 h2 h3 h4 h5 h6 h7 h8 h9 h10 h11 e3)) hS) (fun e22 e1 => ?_)
    exact zwl_r e1
  · exact zwl_r hS
set_option maxHeartbeats 40000 in
set_option maxRecDepth 100000 in
theorem wI_X12_mostCoin_b23 {T : zT} {s0 : Int32} {S S0 : zS} {a b : Nat}  (hS : S.1 a b = S0.1 a b) : zwl (fX12_mostCoin_b23 T s0 S) (fun q0 => q0.2.1 a b = S0.1 a b) := by
  unfold fX12_mostCoin_b23
  exact zwl_r hS
set_option maxHeartbeats 40000 in
set_option maxRecDepth 100000 in
theorem wI_X12_mostCoin {T : zT} {k0 : Nat} {S S0 : zS} {a b : Nat} (h0 : ¬ a = zr T k0 53) (hS : S.1 a b = S0.1 a b) : zwl (fX12_mostCoin T k0 S) (fun q0 => q0.2.1 a b = S0.1 a b) := by
  unfold fX12_mostCoin
  refine zwl_b (wI_X12_plans h0 hS) (fun r1 S3 e2 => ?_)
  refine zwl_t (fun r4 => ?_)
  refine zwl_i ?_ ?_
  · exact (wI_X12_mostCoin_b23  e2)
  · refine zwl_t (fun r7 => ?_)
    exact (wI_X12_mostCoin_b23  e2)
set_option maxHeartbeats 40000 in
set_option maxRecDepth 100000 in
theorem wI_X12_soon {T : zT} {k0 : Nat} {S S0 : zS} {a b : Nat} (h0 : ¬ (a = k0 ∧ b = 54)) (h1 : ¬ (a = k0 ∧ b = 55)) (h2 : ¬ (a = k0 ∧ b = 56)) (h3 : ¬ (a = k0 ∧ b = 57)) (h4 : ¬ (a = k0 ∧ b = 58)) (h5 : ¬ (a = k0 ∧ b = 59)) (h6 : ¬ a = zr T k0 53) (hS : S.1 a b = S0.1 a b) : zwl (fX12_soon T k0 S) (fun q0 => q0.2.1 a b = S0.1 a b) := by
  unfold fX12_soon
  refine zwl_b (wI_X12_asItIs h0 h1 h2 h3 h4 h5 hS) (fun r1 S3 e2 => ?_)
  refine zwl_b (wI_X12_plans h6 e2) (fun r3 S6 e4 => ?_)
  refine zwl_t (fun e14 => ?_)
  refine zwl_mt (fun e14_0 => ?_) (fun e14_1 => ?_)
  · exact zwl_r e4
  · exact zwl_r e4
set_option maxHeartbeats 40000 in
set_option maxRecDepth 100000 in
theorem wI_X12_follows_l6 {T : zT} {k0 : Nat} {x1 : Int32} {x2 : Int32} {x3 : Int32} {S S0 : zS} {a b : Nat} (h0 : ¬ a = zr T k0 61) (hS : S.1 a b = S0.1 a b) : zwl (fX12_follows_l6 T k0 x1 x2 x3 S) (Sum.elim (fun q1 => q1.2.1 a b = S0.1 a b) (fun q1 => q1.1 a b = S0.1 a b)) := by
  unfold fX12_follows_l6
  refine zwl_i ?_ ?_
  · exact zwl_r hS
  · refine zwl_g ?_
    refine zwl_sIa h0 hS (fun S6 e1 => ?_)
    refine zwl_v (fun u7 => ?_)
    exact zwl_r e1
set_option maxHeartbeats 40000 in
set_option maxRecDepth 100000 in
theorem wI_X12_follows_b140 {T : zT} {k0 : Nat} {x1 : Int32} {x2 : Int32} {x3 : Int32} {S S0 : zS} {a b : Nat}  (hS : S.1 a b = S0.1 a b) : zwl (fX12_follows_b140 T k0 x1 x2 x3 S) (Sum.elim (fun q1 => q1.2.1 a b = S0.1 a b) (fun q1 => q1.1 a b = S0.1 a b)) := by
  unfold fX12_follows_b140
  refine zwl_v (fun u15 => ?_)
  exact zwl_r hS
set_option maxHeartbeats 40000 in
set_option maxRecDepth 100000 in
theorem wI_X12_follows_l67 {T : zT} {k0 : Nat} {x1 : Int32} {x2 : Int32} {x3 : Int32} {x4 : Int32} {x5 : Int32} {S S0 : zS} {a b : Nat} (h0 : ¬ (a = k0 ∧ b = 48)) (h1 : ¬ a = zr T k0 40) (h2 : ¬ a = zr T k0 61) (hS : S.1 a b = S0.1 a b) : zwl (fX12_follows_l67 T k0 x1 x2 x3 x4 x5 S) (Sum.elim (fun q1 => q1.2.1 a b = S0.1 a b) (fun q1 => q1.1 a b = S0.1 a b)) := by
  unfold fX12_follows_l67
  refine zwl_i ?_ ?_
  · exact zwl_r hS
  · refine zwl_t (fun r23 => ?_)
    refine zwl_sIf h0 hS (fun S25 e1 => ?_)
    refine zwl_g ?_
    refine zwl_sIa h1 e1 (fun S27 e2 => ?_)
    refine zwl_g ?_
    refine zwl_sIa h2 e2 (fun S29 e3 => ?_)
    refine zwl_b (wI_X12_nextOf  e3) (fun r30 S32 e4 => ?_)
    exact zwl_r e4
set_option maxHeartbeats 40000 in
set_option maxRecDepth 100000 in
theorem wI_X12_follows_b136 {T : zT} {k0 : Nat} {x1 : Int32} {x2 : Int32} {x3 : Int32} {s0 : Int32} {s1 : Int32} {s2 : Nat} {S S0 : zS} {a b : Nat} (h0 : ¬ (a = s2 ∧ b = 51)) (hS : S.1 a b = S0.1 a b) : zwl (fX12_follows_b136 T k0 x1 x2 x3 s0 s1 s2 S) (Sum.elim (fun q1 => q1.2.1 a b = S0.1 a b) (fun q1 => q1.1 a b = S0.1 a b)) := by
  unfold fX12_follows_b136
  refine zwl_sIf h0 hS (fun S38 e1 => ?_)
  exact (wI_X12_follows_b140  e1)
set_option maxHeartbeats 40000 in
set_option maxRecDepth 100000 in
theorem wI_X12_follows_l27 {T : zT} {k0 : Nat} {x1 : Int32} {x2 : Int32} {x3 : Int32} {S S0 : zS} {a b : Nat} (h0 : ¬ a = zr T k0 40) (h1 : ¬ (a = k0 ∧ b = 48)) (h2 : ¬ a = zr T k0 61) (h3 : ¬ (a = k0 ∧ b = 50)) (h4 : ¬ (a = k0 ∧ b = 51)) (hS : S.1 a b = S0.1 a b) : zwl (fX12_follows_l27 T k0 x1 x2 x3 S) (Sum.elim (fun q1 => q1.2.1 a b = S0.1 a b) (fun q1 => q1.1 a b = S0.1 a b)) := by
  unfold fX12_follows_l27
  refine zwl_g ?_
  refine zwl_i ?_ ?_
  · exact zwl_r hS
  · refine zwl_b (wI_X12_works  hS) (fun r11 S13 e1 => ?_)
    refine zwl_i ?_ ?_
    · refine zwl_b (wI_X12_loses h0 e1) (fun r2 S18 e3 => ?_)
      refine zwl_b (wI_X12_nextOf  e3) (fun r19 S21 e4 => ?_)
      refine zwl_b1 (zwl_lp (I := (fun q0 => q0.2.1 a b = S0.1 a b)) (Q := (fun q0 => q0.1 a b = S0.1 a b)) (fun a e7 => (wI_X12_follows_l67 h1 h0 h2 e7)) e4) (fun e33 e5 => ?_)
      refine zwl_b (wI_X12_ends h1 h3 e5) (fun r34 S36 e8 => ?_)
      refine zwl_i ?_ ?_
      · exact (wI_X12_follows_b136 h4 e8)
      · exact (wI_X12_follows_b136 h4 e8)
    · exact (wI_X12_follows_b140  e1)
set_option maxHeartbeats 40000 in
set_option maxRecDepth 100000 in
theorem wI_X12_follows {T : zT} {k0 : Nat} {x1 : Int32} {x2 : Int32} {S S0 : zS} {a b : Nat} (h0 : ¬ a = zr T k0 40) (h1 : ¬ a = zr T k0 41) (h2 : ¬ a = zr T k0 42) (h3 : ¬ a = zr T k0 43) (h4 : ¬ a = zr T k0 46) (h5 : ¬ (a = k0 ∧ b = 48)) (h6 : ¬ (a = k0 ∧ b = 47)) (h7 : ¬ (a = k0 ∧ b = 49)) (h8 : ¬ (a = k0 ∧ b = 50)) (h9 : ¬ (a = k0 ∧ b = 51)) (h10 : ¬ a = zr T k0 61) (hS : S.1 a b = S0.1 a b) : zwl (fX12_follows T k0 x1 x2 S) (fun q0 => q0.2.1 a b = S0.1 a b) := by
  unfold fX12_follows
  refine zwl_b (wI_X12_begins h0 h1 h2 h3 h4 h5 h6 h7 h8 h9 hS) (fun r1 S3 e2 => ?_)
  refine zwl_b1 (zwl_lp (I := (fun q0 => q0.2.1 a b = S0.1 a b)) (Q := (fun q0 => q0.1 a b = S0.1 a b)) (fun a e5 => (wI_X12_follows_l6 h10 e5)) e2) (fun e8 e3 => ?_)
  refine zwl_b1 (zwl_lp (I := (fun q0 => q0.2.1 a b = S0.1 a b)) (Q := (fun q0 => q0.1 a b = S0.1 a b)) (fun a e8 => (wI_X12_follows_l27 h0 h5 h10 h8 h9 e8)) e3) (fun e41 e6 => ?_)
  exact zwl_r e6
set_option maxHeartbeats 40000 in
set_option maxRecDepth 100000 in
theorem wI_X10_split_b47 {T : zT} {k0 : Nat} {k1 : Nat} {n1 : Nat} {x2 : Int32} {x3 : Int32} {x4 : Int32} {S S0 : zS} {a b : Nat}  (hS : S.1 a b = S0.1 a b) : zwl (fX10_split_b47 T k0 k1 n1 x2 x3 x4 S) (Sum.elim (fun q1 => q1.2.2.1 a b = S0.1 a b) (fun q1 => q1.1 a b = S0.1 a b)) := by
  unfold fX10_split_b47
  refine zwl_v (fun u5 => ?_)
  exact zwl_r hS
set_option maxHeartbeats 40000 in
set_option maxRecDepth 100000 in
theorem wI_X10_split_l10 {T : zT} {k0 : Nat} {k1 : Nat} {n1 : Nat} {x2 : Int32} {x3 : Int32} {x4 : Int32} {S S0 : zS} {a b : Nat} (h0 : ¬ a = zr T k0 0) (h1 : ¬ a = zr T k0 1) (h2 : ¬ a = zr T k0 2) (h3 : ¬ (a = k0 ∧ b = 3)) (hS : S.1 a b = S0.1 a b) : zwl (fX10_split_l10 T k0 k1 n1 x2 x3 x4 S) (Sum.elim (fun q1 => q1.2.2.1 a b = S0.1 a b) (fun q1 => q1.1 a b = S0.1 a b)) := by
  unfold fX10_split_l10
  refine zwl_i ?_ ?_
  · exact zwl_r hS
  · refine zwl_i ?_ ?_
    · exact zwl_r hS
    · refine zwl_i ?_ ?_
      · exact (wI_X10_split_b47  hS)
      · refine zwl_g ?_
        refine zwl_i ?_ ?_
        · exact (wI_X10_split_b47  hS)
        · refine zwl_b (wI_X10_splitOne h0 h1 h2 h3 hS) (fun r8 S10 e1 => ?_)
          exact (wI_X10_split_b47  e1)
set_option maxHeartbeats 40000 in
set_option maxRecDepth 100000 in
theorem wI_X10_split_b53 {T : zT} {k0 : Nat} {x2 : Int32} {S S0 : zS} {a b : Nat} (h0 : ¬ a = zr T k0 0) (h1 : ¬ a = zr T k0 1) (h2 : ¬ a = zr T k0 2) (h3 : ¬ (a = k0 ∧ b = 3)) (hS : S.1 a b = S0.1 a b) : zwl (fX10_split_b53 T k0 x2 S) (fun q0 => q0.2.1 a b = S0.1 a b) := by
  unfold fX10_split_b53
  refine zwl_b (wI_X10_add h0 h1 h2 h3 hS) (fun r1 S14 e2 => ?_)
  exact zwl_r e2
set_option maxHeartbeats 40000 in
set_option maxRecDepth 100000 in
theorem wI_X10_split {T : zT} {k0 : Nat} {k1 : Nat} {n1 : Nat} {x2 : Int32} {S S0 : zS} {a b : Nat} (h0 : ¬ (a = k0 ∧ b = 3)) (h1 : ¬ a = zr T k0 0) (h2 : ¬ a = zr T k0 1) (h3 : ¬ a = zr T k0 2) (hS : S.1 a b = S0.1 a b) : zwl (fX10_split T k0 k1 n1 x2 S) (fun q0 => q0.2.1 a b = S0.1 a b) := by
  unfold fX10_split
  refine zwl_sIf h0 hS (fun S1 e1 => ?_)
  refine zwl_b1 (zwl_lp (I := (fun q0 => q0.2.2.1 a b = S0.1 a b)) (Q := (fun q0 => q0.1 a b = S0.1 a b)) (fun a e4 => (wI_X10_split_l10 h1 h2 h3 h0 e4)) e1) (fun e11 e2 => ?_)
  exact (wI_X10_split_b53 h1 h2 h3 h0 e2)
set_option maxHeartbeats 40000 in
set_option maxRecDepth 100000 in
theorem wI_X11_soon {T : zT} {k0 : Nat} {S S0 : zS} {a b : Nat} (h0 : ¬ a = zr T (zr T k0 13) 13) (h1 : ¬ a = zr T (zr T k0 13) 14) (h2 : ¬ a = zr T (zr T k0 13) 9) (h3 : ¬ a = zr T (zr T k0 13) 11) (h4 : ¬ (a = zr T k0 13 ∧ b = 5)) (h5 : ¬ (a = zr T k0 13 ∧ b = 6)) (h6 : ¬ a = zr T (zr T k0 13) 8) (h7 : ¬ (a = zr T k0 13 ∧ b = 3)) (h8 : ¬ (a = zr T k0 13 ∧ b = 4)) (h9 : ¬ a = zr T (zr T k0 13) 7) (h10 : ¬ (a = zr T k0 13 ∧ b = 2)) (h11 : ¬ a = zr T (zr T k0 13) 10) (hS : S.1 a b = S0.1 a b) : zwl (fX11_soon T k0 S) (fun q0 => q0.2.1 a b = S0.1 a b) := by
  unfold fX11_soon
  refine zwl_b (wI_X11_readyPlans h0 h1 h2 h3 h4 h5 h6 h7 h8 h9 h10 h11 hS) (fun r1 S3 e1 => ?_)
  refine zwl_t (fun r4 => ?_)
  exact zwl_r e1
set_option maxHeartbeats 40000 in
set_option maxRecDepth 100000 in
theorem wI_X11_best_b44 {T : zT} {S S0 : zS} {a b : Nat}  (hS : S.1 a b = S0.1 a b) : zwl (fX11_best_b44 T S) (fun q0 => q0.2.1 a b = S0.1 a b) := by
  unfold fX11_best_b44
  exact zwl_r hS
set_option maxHeartbeats 40000 in
set_option maxRecDepth 100000 in
theorem wI_X11_best {T : zT} {k0 : Nat} {x1 : Int32} {S S0 : zS} {a b : Nat} (h0 : ¬ a = zr T (zr T k0 13) 13) (h1 : ¬ a = zr T (zr T k0 13) 14) (h2 : ¬ a = zr T (zr T k0 13) 9) (h3 : ¬ a = zr T (zr T k0 13) 11) (h4 : ¬ (a = zr T k0 13 ∧ b = 5)) (h5 : ¬ (a = zr T k0 13 ∧ b = 6)) (h6 : ¬ a = zr T (zr T k0 13) 8) (h7 : ¬ (a = zr T k0 13 ∧ b = 3)) (h8 : ¬ (a = zr T k0 13 ∧ b = 4)) (h9 : ¬ a = zr T (zr T k0 13) 7) (h10 : ¬ (a = zr T k0 13 ∧ b = 2)) (h11 : ¬ a = zr T (zr T k0 13) 10) (hS : S.1 a b = S0.1 a b) : zwl (fX11_best T k0 x1 S) (fun q0 => q0.2.1 a b = S0.1 a b) := by
  unfold fX11_best
  refine zwl_b (wI_X11_readyPlans h0 h1 h2 h3 h4 h5 h6 h7 h8 h9 h10 h11 hS) (fun r1 S3 e1 => ?_)
  refine zwl_i ?_ ?_
  · exact zwl_r e1
  · refine zwl_i ?_ ?_
    · exact zwl_r e1
    · refine zwl_i ?_ ?_
      · exact (wI_X11_best_b44  e1)
      · refine zwl_i ?_ ?_
        · refine zwl_i ?_ ?_
          · refine zwl_i ?_ ?_
            · exact zwl_r e1
            · refine zwl_i ?_ ?_
              · exact zwl_r e1
              · refine zwl_i ?_ ?_
                · refine zwl_t (fun r12 => ?_)
                  exact zwl_r e1
                · exact zwl_r e1
          · exact zwl_r e1
        · exact (wI_X11_best_b44  e1)
set_option maxHeartbeats 40000 in
set_option maxRecDepth 100000 in
theorem wI_X11_fetched_b37 {T : zT} {s0 : Int32} {S S0 : zS} {a b : Nat}  (hS : S.1 a b = S0.1 a b) : zwl (fX11_fetched_b37 T s0 S) (fun q0 => q0.2.1 a b = S0.1 a b) := by
  unfold fX11_fetched_b37
  exact zwl_r hS
set_option maxHeartbeats 40000 in
set_option maxRecDepth 100000 in
theorem wI_X11_fetched {T : zT} {k0 : Nat} {x1 : Int32} {S S0 : zS} {a b : Nat} (h0 : ¬ a = zr T (zr T k0 13) 13) (h1 : ¬ a = zr T (zr T k0 13) 14) (h2 : ¬ a = zr T (zr T k0 13) 9) (h3 : ¬ a = zr T (zr T k0 13) 11) (h4 : ¬ (a = zr T k0 13 ∧ b = 5)) (h5 : ¬ (a = zr T k0 13 ∧ b = 6)) (h6 : ¬ a = zr T (zr T k0 13) 8) (h7 : ¬ (a = zr T k0 13 ∧ b = 3)) (h8 : ¬ (a = zr T k0 13 ∧ b = 4)) (h9 : ¬ a = zr T (zr T k0 13) 7) (h10 : ¬ (a = zr T k0 13 ∧ b = 2)) (h11 : ¬ a = zr T (zr T k0 13) 10) (hS : S.1 a b = S0.1 a b) : zwl (fX11_fetched T k0 x1 S) (fun q0 => q0.2.1 a b = S0.1 a b) := by
  unfold fX11_fetched
  refine zwl_t (fun r1 => ?_)
  refine zwl_i ?_ ?_
  · exact zwl_r hS
  · refine zwl_b (wI_X11_readyPlans h0 h1 h2 h3 h4 h5 h6 h7 h8 h9 h10 h11 hS) (fun r4 S6 e1 => ?_)
    refine zwl_i ?_ ?_
    · refine zwl_g ?_
      exact (wI_X11_fetched_b37  e1)
    · exact (wI_X11_fetched_b37  e1)
set_option maxHeartbeats 40000 in
set_option maxRecDepth 100000 in
theorem wI_X11_hangs_b35 {T : zT} {s0 : Int32} {S S0 : zS} {a b : Nat}  (hS : S.1 a b = S0.1 a b) : zwl (fX11_hangs_b35 T s0 S) (fun q0 => q0.2.1 a b = S0.1 a b) := by
  unfold fX11_hangs_b35
  exact zwl_r hS
set_option maxHeartbeats 40000 in
set_option maxRecDepth 100000 in
theorem wI_X11_key_b31 {T : zT} {s0 : Int32} {S S0 : zS} {a b : Nat}  (hS : S.1 a b = S0.1 a b) : zwl (fX11_key_b31 T s0 S) (fun q0 => q0.2.1 a b = S0.1 a b) := by
  unfold fX11_key_b31
  exact zwl_r hS
set_option maxHeartbeats 40000 in
set_option maxRecDepth 100000 in
theorem wI_X11_key_b22 {T : zT} {S S0 : zS} {a b : Nat}  (hS : S.1 a b = S0.1 a b) : zwl (fX11_key_b22 T S) (fun q0 => q0.2.1 a b = S0.1 a b) := by
  unfold fX11_key_b22
  exact (wI_X11_key_b31  hS)
set_option maxHeartbeats 40000 in
set_option maxRecDepth 100000 in
theorem wI_X11_wise_b49 {T : zT} {s0 : Int32} {S S0 : zS} {a b : Nat}  (hS : S.1 a b = S0.1 a b) : zwl (fX11_wise_b49 T s0 S) (fun q0 => q0.2.1 a b = S0.1 a b) := by
  unfold fX11_wise_b49
  exact zwl_r hS
set_option maxHeartbeats 40000 in
set_option maxRecDepth 100000 in
theorem wI_X11_wise_b37 {T : zT} {S S0 : zS} {a b : Nat}  (hS : S.1 a b = S0.1 a b) : zwl (fX11_wise_b37 T S) (fun q0 => q0.2.1 a b = S0.1 a b) := by
  unfold fX11_wise_b37
  exact (wI_X11_wise_b49  hS)
set_option maxHeartbeats 40000 in
set_option maxRecDepth 100000 in
theorem wI_X11_borrowed_b15 {T : zT} {S S0 : zS} {a b : Nat}  (hS : S.1 a b = S0.1 a b) : zwl (fX11_borrowed_b15 T S) (fun q0 => q0.2.1 a b = S0.1 a b) := by
  unfold fX11_borrowed_b15
  exact zwl_r hS
set_option maxHeartbeats 40000 in
set_option maxRecDepth 100000 in
theorem wI_X11_sold_b26 {T : zT} {S S0 : zS} {a b : Nat}  (hS : S.1 a b = S0.1 a b) : zwl (fX11_sold_b26 T S) (fun q0 => q0.2.1 a b = S0.1 a b) := by
  unfold fX11_sold_b26
  exact zwl_r hS
set_option maxHeartbeats 40000 in
set_option maxRecDepth 100000 in
theorem wI_X11_ruled_b17 {T : zT} {S S0 : zS} {a b : Nat}  (hS : S.1 a b = S0.1 a b) : zwl (fX11_ruled_b17 T S) (fun q0 => q0.2.1 a b = S0.1 a b) := by
  unfold fX11_ruled_b17
  exact zwl_r hS
set_option maxHeartbeats 40000 in
set_option maxRecDepth 100000 in
theorem wI_X11_ruled_b126 {T : zT} {s0 : Int32} {S S0 : zS} {a b : Nat}  (hS : S.1 a b = S0.1 a b) : zwl (fX11_ruled_b126 T s0 S) (fun q0 => q0.2.1 a b = S0.1 a b) := by
  unfold fX11_ruled_b126
  exact zwl_r hS
set_option maxHeartbeats 40000 in
set_option maxRecDepth 100000 in
theorem wI_X11_ruled_b111 {T : zT} {S S0 : zS} {a b : Nat}  (hS : S.1 a b = S0.1 a b) : zwl (fX11_ruled_b111 T S) (fun q0 => q0.2.1 a b = S0.1 a b) := by
  unfold fX11_ruled_b111
  exact (wI_X11_ruled_b126  hS)
set_option maxHeartbeats 40000 in
set_option maxRecDepth 100000 in
theorem wI_X11_ruled {T : zT} {k0 : Nat} {x1 : Int32} {x2 : Int32} {S S0 : zS} {a b : Nat} (h0 : ¬ (a = zr T k0 12 ∧ b = 3)) (h1 : ¬ (a = zr T k0 12 ∧ b = 4)) (h2 : ¬ (a = zr T k0 12 ∧ b = 5)) (h3 : ¬ (a = zr T k0 12 ∧ b = 6)) (h4 : ¬ (a = zr T k0 12 ∧ b = 7)) (h5 : ¬ (a = zr T k0 12 ∧ b = 8)) (h6 : ¬ (a = zr T k0 12 ∧ b = 15)) (h7 : ¬ (a = zr T k0 12 ∧ b = 16)) (h8 : ¬ a = zr T (zr T k0 12) 12) (h9 : ¬ a = zr T (zr T k0 12) 13) (h10 : ¬ a = zr T (zr T k0 12) 14) (h11 : ¬ a = zr T (zr T k0 12) 11) (h12 : ¬ a = zr T (zr T k0 12) 9) (h13 : ¬ a = zr T (zr T k0 12) 10) (h14 : ¬ a = zr T (zr T k0 13) 13) (h15 : ¬ a = zr T (zr T k0 13) 14) (h16 : ¬ a = zr T (zr T k0 13) 9) (h17 : ¬ a = zr T (zr T k0 13) 11) (h18 : ¬ (a = zr T k0 13 ∧ b = 5)) (h19 : ¬ (a = zr T k0 13 ∧ b = 6)) (h20 : ¬ a = zr T (zr T k0 13) 8) (h21 : ¬ (a = zr T k0 13 ∧ b = 3)) (h22 : ¬ (a = zr T k0 13 ∧ b = 4)) (h23 : ¬ a = zr T (zr T k0 13) 7) (h24 : ¬ (a = zr T k0 13 ∧ b = 2)) (h25 : ¬ a = zr T (zr T k0 13) 10) (hS : S.1 a b = S0.1 a b) : zwl (fX11_ruled T k0 x1 x2 S) (fun q0 => q0.2.1 a b = S0.1 a b) := by
  unfold fX11_ruled
  refine zwl_t (fun r1 => ?_)
  refine zwl_i ?_ ?_
  · exact (wI_X11_ruled_b17  hS)
  · refine zwl_i ?_ ?_
    · exact (wI_X11_ruled_b17  hS)
    · refine zwl_i ?_ ?_
      · refine zwl_g ?_
        refine zwl_b (wI_X4_liveByRule h0 h1 h2 h3 h4 h5 h6 h7 h8 h9 h10 h11 h12 h13 hS) (fun r1 S9 e2 => ?_)
        refine zwl_i ?_ ?_
        · exact zwl_r e2
        · refine zwl_i ?_ ?_
          · exact zwl_r e2
          · refine zwl_i ?_ ?_
            · exact zwl_r e2
            · refine zwl_b (wI_X11_readyPlans h14 h15 h16 h17 h18 h19 h20 h21 h22 h23 h24 h25 e2) (fun r13 S15 e3 => ?_)
              refine zwl_v (fun u16 => ?_)
              refine zwl_i ?_ ?_
              · refine zwl_i ?_ ?_
                · exact (wI_X11_ruled_b126  e3)
                · exact (wI_X11_ruled_b111  e3)
              · exact (wI_X11_ruled_b111  e3)
      · exact (wI_X11_ruled_b17  hS)
set_option maxHeartbeats 40000 in
set_option maxRecDepth 100000 in
theorem wI_X11_finest_b69 {T : zT} {k0 : Nat} {x1 : Int32} {x2 : Int32} {x3 : Int32} {S S0 : zS} {a b : Nat}  (hS : S.1 a b = S0.1 a b) : zwl (fX11_finest_b69 T k0 x1 x2 x3 S) (Sum.elim (fun q1 => q1.2.2.2.1 a b = S0.1 a b) (fun q1 => q1.2.1 a b = S0.1 a b)) := by
  unfold fX11_finest_b69
  refine zwl_v (fun u8 => ?_)
  exact zwl_r hS
set_option maxHeartbeats 40000 in
set_option maxRecDepth 100000 in
theorem wI_X11_finest_l7 {T : zT} {k0 : Nat} {x1 : Int32} {x2 : Int32} {x3 : Int32} {S S0 : zS} {a b : Nat} (h0 : ¬ (a = zr T k0 12 ∧ b = 3)) (h1 : ¬ (a = zr T k0 12 ∧ b = 4)) (h2 : ¬ (a = zr T k0 12 ∧ b = 5)) (h3 : ¬ (a = zr T k0 12 ∧ b = 6)) (h4 : ¬ (a = zr T k0 12 ∧ b = 7)) (h5 : ¬ (a = zr T k0 12 ∧ b = 8)) (h6 : ¬ (a = zr T k0 12 ∧ b = 15)) (h7 : ¬ (a = zr T k0 12 ∧ b = 16)) (h8 : ¬ a = zr T (zr T k0 12) 12) (h9 : ¬ a = zr T (zr T k0 12) 13) (h10 : ¬ a = zr T (zr T k0 12) 14) (h11 : ¬ a = zr T (zr T k0 12) 11) (h12 : ¬ a = zr T (zr T k0 12) 9) (h13 : ¬ a = zr T (zr T k0 12) 10) (hS : S.1 a b = S0.1 a b) : zwl (fX11_finest_l7 T k0 x1 x2 x3 S) (Sum.elim (fun q1 => q1.2.2.2.1 a b = S0.1 a b) (fun q1 => q1.2.1 a b = S0.1 a b)) := by
  unfold fX11_finest_l7
  refine zwl_i ?_ ?_
  · exact zwl_r hS
  · refine zwl_i ?_ ?_
    · exact zwl_r hS
    · refine zwl_g ?_
      refine zwl_b (wI_X4_liveByRule h0 h1 h2 h3 h4 h5 h6 h7 h8 h9 h10 h11 h12 h13 hS) (fun r1 S6 e2 => ?_)
      refine zwl_i ?_ ?_
      · refine zwl_i ?_ ?_
        · exact (wI_X11_finest_b69  e2)
        · refine zwl_v (fun u10 => ?_)
          exact (wI_X11_finest_b69  e2)
      · exact (wI_X11_finest_b69  e2)
set_option maxHeartbeats 40000 in
set_option maxRecDepth 100000 in
theorem wI_X11_finest_b75 {T : zT} {x1 : Int32} {S S0 : zS} {a b : Nat}  (hS : S.1 a b = S0.1 a b) : zwl (fX11_finest_b75 T x1 S) (fun q0 => q0.2.1 a b = S0.1 a b) := by
  unfold fX11_finest_b75
  exact zwl_r hS
set_option maxHeartbeats 40000 in
set_option maxRecDepth 100000 in
theorem wI_X11_finest {T : zT} {k0 : Nat} {S S0 : zS} {a b : Nat} (h0 : ¬ (a = zr T k0 12 ∧ b = 3)) (h1 : ¬ (a = zr T k0 12 ∧ b = 4)) (h2 : ¬ (a = zr T k0 12 ∧ b = 5)) (h3 : ¬ (a = zr T k0 12 ∧ b = 6)) (h4 : ¬ (a = zr T k0 12 ∧ b = 7)) (h5 : ¬ (a = zr T k0 12 ∧ b = 8)) (h6 : ¬ (a = zr T k0 12 ∧ b = 15)) (h7 : ¬ (a = zr T k0 12 ∧ b = 16)) (h8 : ¬ a = zr T (zr T k0 12) 12) (h9 : ¬ a = zr T (zr T k0 12) 13) (h10 : ¬ a = zr T (zr T k0 12) 14) (h11 : ¬ a = zr T (zr T k0 12) 11) (h12 : ¬ a = zr T (zr T k0 12) 9) (h13 : ¬ a = zr T (zr T k0 12) 10) (hS : S.1 a b = S0.1 a b) : zwl (fX11_finest T k0 S) (fun q0 => q0.2.1 a b = S0.1 a b) := by
  unfold fX11_finest
  refine zwl_b1 (zwl_lp (I := (fun q0 => q0.2.2.2.1 a b = S0.1 a b)) (Q := (fun q0 => q0.2.1 a b = S0.1 a b)) (fun a e3 => (wI_X11_finest_l7 h0 h1 h2 h3 h4 h5 h6 h7 h8 h9 h10 h11 h12 h13 e3)) hS) (fun e11 e1 => ?_)
  exact (wI_X11_finest_b75  e1)
set_option maxHeartbeats 40000 in
set_option maxRecDepth 100000 in
theorem wI_X11_parts_b21 {T : zT} {S S0 : zS} {a b : Nat}  (hS : S.1 a b = S0.1 a b) : zwl (fX11_parts_b21 T S) (fun q0 => q0.2.1 a b = S0.1 a b) := by
  unfold fX11_parts_b21
  exact zwl_r hS
set_option maxHeartbeats 40000 in
set_option maxRecDepth 100000 in
theorem wI_X11_parts {T : zT} {k0 : Nat} {x1 : Int32} {x2 : Int32} {S S0 : zS} {a b : Nat} (h0 : ¬ (a = zr T k0 12 ∧ b = 3)) (h1 : ¬ (a = zr T k0 12 ∧ b = 4)) (h2 : ¬ (a = zr T k0 12 ∧ b = 5)) (h3 : ¬ (a = zr T k0 12 ∧ b = 6)) (h4 : ¬ (a = zr T k0 12 ∧ b = 7)) (h5 : ¬ (a = zr T k0 12 ∧ b = 8)) (h6 : ¬ (a = zr T k0 12 ∧ b = 15)) (h7 : ¬ (a = zr T k0 12 ∧ b = 16)) (h8 : ¬ a = zr T (zr T k0 12) 12) (h9 : ¬ a = zr T (zr T k0 12) 13) (h10 : ¬ a = zr T (zr T k0 12) 14) (h11 : ¬ a = zr T (zr T k0 12) 11) (h12 : ¬ a = zr T (zr T k0 12) 9) (h13 : ¬ a = zr T (zr T k0 12) 10) (h14 : ¬ a = zr T k0 15) (hS : S.1 a b = S0.1 a b) : zwl (fX11_parts T k0 x1 x2 S) (fun q0 => q0.2.1 a b = S0.1 a b) := by
  unfold fX11_parts
  refine zwl_t (fun r1 => ?_)
  refine zwl_i ?_ ?_
  · exact (wI_X11_parts_b21  hS)
  · refine zwl_t (fun r4 => ?_)
    refine zwl_i ?_ ?_
    · exact (wI_X11_parts_b21  hS)
    · refine zwl_i ?_ ?_
      · exact (wI_X11_parts_b21  hS)
      · refine zwl_g ?_
        refine zwl_b (wI_X4_liveByRule h0 h1 h2 h3 h4 h5 h6 h7 h8 h9 h10 h11 h12 h13 hS) (fun r1 S11 e2 => ?_)
        refine zwl_g ?_
        refine zwl_sIC h14 e2 (fun S13 e3 => ?_)
        refine zwl_g ?_
        refine zwl_b (wI_X4_liveByRule h0 h1 h2 h3 h4 h5 h6 h7 h8 h9 h10 h11 h12 h13 e3) (fun r4 S17 e5 => ?_)
        refine zwl_t (fun e24 => ?_)
        exact zwl_r e5
set_option maxHeartbeats 40000 in
set_option maxRecDepth 100000 in
theorem wI_X11_goes_b16 {T : zT} {S S0 : zS} {a b : Nat}  (hS : S.1 a b = S0.1 a b) : zwl (fX11_goes_b16 T S) (fun q0 => q0.2.1 a b = S0.1 a b) := by
  unfold fX11_goes_b16
  exact zwl_r hS
set_option maxHeartbeats 40000 in
set_option maxRecDepth 100000 in
theorem wI_X11_goes_b103 {T : zT} {k0 : Nat} {x1 : Int32} {x3 : Int32} {x4 : Int32} {x5 : Int32} {S S0 : zS} {a b : Nat}  (hS : S.1 a b = S0.1 a b) : zwl (fX11_goes_b103 T k0 x1 x3 x4 x5 S) (Sum.elim (fun q1 => q1.2.2.1 a b = S0.1 a b) (fun q1 => q1.2.1 a b = S0.1 a b)) := by
  unfold fX11_goes_b103
  refine zwl_v (fun u19 => ?_)
  exact zwl_r hS
set_option maxHeartbeats 40000 in
set_option maxRecDepth 100000 in
theorem wI_X11_goes_l33 {T : zT} {k0 : Nat} {x1 : Int32} {x3 : Int32} {x4 : Int32} {x5 : Int32} {S S0 : zS} {a b : Nat} (h0 : ¬ (a = zr T k0 12 ∧ b = 3)) (h1 : ¬ (a = zr T k0 12 ∧ b = 4)) (h2 : ¬ (a = zr T k0 12 ∧ b = 5)) (h3 : ¬ (a = zr T k0 12 ∧ b = 6)) (h4 : ¬ (a = zr T k0 12 ∧ b = 7)) (h5 : ¬ (a = zr T k0 12 ∧ b = 8)) (h6 : ¬ (a = zr T k0 12 ∧ b = 15)) (h7 : ¬ (a = zr T k0 12 ∧ b = 16)) (h8 : ¬ a = zr T (zr T k0 12) 12) (h9 : ¬ a = zr T (zr T k0 12) 13) (h10 : ¬ a = zr T (zr T k0 12) 14) (h11 : ¬ a = zr T (zr T k0 12) 11) (h12 : ¬ a = zr T (zr T k0 12) 9) (h13 : ¬ a = zr T (zr T k0 12) 10) (hS : S.1 a b = S0.1 a b) : zwl (fX11_goes_l33 T k0 x1 x3 x4 x5 S) (Sum.elim (fun q1 => q1.2.2.1 a b = S0.1 a b) (fun q1 => q1.2.1 a b = S0.1 a b)) := by
  unfold fX11_goes_l33
  refine zwl_i ?_ ?_
  · exact zwl_r hS
  · refine zwl_g ?_
    refine zwl_b (wI_X3_work  hS) (fun r10 S12 e1 => ?_)
    refine zwl_b (wI_X4_liveByRule h0 h1 h2 h3 h4 h5 h6 h7 h8 h9 h10 h11 h12 h13 e1) (fun r2 S15 e3 => ?_)
    refine zwl_t (fun r16 => ?_)
    refine zwl_i ?_ ?_
    · exact (wI_X11_goes_b103  e3)
    · refine zwl_i ?_ ?_
      · refine zwl_v (fun u21 => ?_)
        exact (wI_X11_goes_b103  e3)
      · exact (wI_X11_goes_b103  e3)
set_option maxHeartbeats 40000 in
set_option maxRecDepth 100000 in
theorem wI_X11_goes {T : zT} {k0 : Nat} {x1 : Int32} {x2 : Int32} {x3 : Int32} {S S0 : zS} {a b : Nat} (h0 : ¬ (a = zr T k0 12 ∧ b = 3)) (h1 : ¬ (a = zr T k0 12 ∧ b = 4)) (h2 : ¬ (a = zr T k0 12 ∧ b = 5)) (h3 : ¬ (a = zr T k0 12 ∧ b = 6)) (h4 : ¬ (a = zr T k0 12 ∧ b = 7)) (h5 : ¬ (a = zr T k0 12 ∧ b = 8)) (h6 : ¬ (a = zr T k0 12 ∧ b = 15)) (h7 : ¬ (a = zr T k0 12 ∧ b = 16)) (h8 : ¬ a = zr T (zr T k0 12) 12) (h9 : ¬ a = zr T (zr T k0 12) 13) (h10 : ¬ a = zr T (zr T k0 12) 14) (h11 : ¬ a = zr T (zr T k0 12) 11) (h12 : ¬ a = zr T (zr T k0 12) 9) (h13 : ¬ a = zr T (zr T k0 12) 10) (hS : S.1 a b = S0.1 a b) : zwl (fX11_goes T k0 x1 x2 x3 S) (fun q0 => q0.2.1 a b = S0.1 a b) := by
  unfold fX11_goes
  refine zwl_t (fun r1 => ?_)
  refine zwl_i ?_ ?_
  · exact (wI_X11_goes_b16  hS)
  · refine zwl_t (fun r4 => ?_)
    refine zwl_i ?_ ?_
    · exact (wI_X11_goes_b16  hS)
    · refine zwl_sIn hS (fun S7 e1 => ?_)
      refine zwl_b1 (zwl_lp (I := (fun q0 => q0.2.2.1 a b = S0.1 a b)) (Q := (fun q0 => q0.2.1 a b = S0.1 a b)) (fun a e4 => (wI_X11_goes_l33 h0 h1 h2 h3 h4 h5 h6 h7 h8 h9 h10 h11 h12 h13 e4)) e1) (fun e22 e2 => ?_)
      exact zwl_r e2
set_option maxHeartbeats 40000 in
set_option maxRecDepth 100000 in
theorem wI_X12_sum_b43 {T : zT} {k0 : Nat} {s0 : Int32} {S S0 : zS} {a b : Nat} (h0 : ¬ (a = k0 ∧ b = 2)) (h1 : ¬ (a = k0 ∧ b = 3)) (h2 : ¬ (a = k0 ∧ b = 8)) (h3 : ¬ a = zr T k0 12) (h4 : ¬ a = zr T k0 13) (h5 : ¬ (a = k0 ∧ b = 6)) (hS : S.1 a b = S0.1 a b) : zwl (fX12_sum_b43 T k0 s0 S) (Sum.elim (fun q1 => q1.1 a b = S0.1 a b) (fun q1 => q1.1 a b = S0.1 a b)) := by
  unfold fX12_sum_b43
  refine zwl_sIf h0 hS (fun S11 e1 => ?_)
  refine zwl_b (wI_X12_term h0 h1 h2 h3 h4 h5 e1) (fun r2 S14 e3 => ?_)
  refine zwl_b (wI_X12_entry h3 h4 h5 e3) (fun r4 S17 e5 => ?_)
  exact zwl_r e5
set_option maxHeartbeats 40000 in
set_option maxRecDepth 100000 in
theorem wI_X12_sum_b29 {T : zT} {k0 : Nat} {S S0 : zS} {a b : Nat} (h0 : ¬ (a = k0 ∧ b = 2)) (h1 : ¬ (a = k0 ∧ b = 3)) (h2 : ¬ (a = k0 ∧ b = 8)) (h3 : ¬ a = zr T k0 12) (h4 : ¬ a = zr T k0 13) (h5 : ¬ (a = k0 ∧ b = 6)) (hS : S.1 a b = S0.1 a b) : zwl (fX12_sum_b29 T k0 S) (Sum.elim (fun q1 => q1.1 a b = S0.1 a b) (fun q1 => q1.1 a b = S0.1 a b)) := by
  unfold fX12_sum_b29
  refine zwl_t (fun r8 => ?_)
  refine zwl_i ?_ ?_
  · exact (wI_X12_sum_b43 h0 h1 h2 h3 h4 h5 hS)
  · exact (wI_X12_sum_b43 h0 h1 h2 h3 h4 h5 hS)
set_option maxHeartbeats 40000 in
set_option maxRecDepth 100000 in
theorem wI_X12_sum_l4 {T : zT} {k0 : Nat} {S S0 : zS} {a b : Nat} (h0 : ¬ (a = k0 ∧ b = 2)) (h1 : ¬ (a = k0 ∧ b = 3)) (h2 : ¬ (a = k0 ∧ b = 8)) (h3 : ¬ a = zr T k0 12) (h4 : ¬ a = zr T k0 13) (h5 : ¬ (a = k0 ∧ b = 6)) (hS : S.1 a b = S0.1 a b) : zwl (fX12_sum_l4 T k0 S) (Sum.elim (fun q1 => q1.1 a b = S0.1 a b) (fun q1 => q1.1 a b = S0.1 a b)) := by
  unfold fX12_sum_l4
  refine zwl_i ?_ ?_
  · refine zwl_t (fun r5 => ?_)
    refine zwl_i ?_ ?_
    · exact (wI_X12_sum_b29 h0 h1 h2 h3 h4 h5 hS)
    · refine zwl_t (fun r18 => ?_)
      refine zwl_i ?_ ?_
      · exact (wI_X12_sum_b29 h0 h1 h2 h3 h4 h5 hS)
      · exact zwl_r hS
  · exact zwl_r hS
set_option maxHeartbeats 40000 in
set_option maxRecDepth 100000 in
theorem wI_X12_sum_b67 {T : zT} {S S0 : zS} {a b : Nat}  (hS : S.1 a b = S0.1 a b) : zwl (fX12_sum_b67 T S) (fun q0 => q0.2.1 a b = S0.1 a b) := by
  unfold fX12_sum_b67
  exact zwl_r hS
set_option maxHeartbeats 40000 in
set_option maxRecDepth 100000 in
theorem wI_X12_sum {T : zT} {k0 : Nat} {S S0 : zS} {a b : Nat} (h0 : ¬ (a = k0 ∧ b = 2)) (h1 : ¬ (a = k0 ∧ b = 3)) (h2 : ¬ (a = k0 ∧ b = 8)) (h3 : ¬ a = zr T k0 12) (h4 : ¬ a = zr T k0 13) (h5 : ¬ (a = k0 ∧ b = 6)) (hS : S.1 a b = S0.1 a b) : zwl (fX12_sum T k0 S) (fun q0 => q0.2.1 a b = S0.1 a b) := by
  unfold fX12_sum
  refine zwl_b (wI_X12_term h0 h1 h2 h3 h4 h5 hS) (fun r1 S3 e2 => ?_)
  refine zwl_b1 (zwl_lp (I := (fun q0 => q0.1 a b = S0.1 a b)) (Q := (fun q0 => q0.1 a b = S0.1 a b)) (fun a e5 => (wI_X12_sum_l4 h0 h1 h2 h3 h4 h5 e5)) e2) (fun e21 e3 => ?_)
  exact (wI_X12_sum_b67  e3)
set_option maxHeartbeats 40000 in
set_option maxRecDepth 100000 in
theorem wI_X12_best_b45 {T : zT} {s0 : Int32} {s1 : Nat} {S S0 : zS} {a b : Nat}  (hS : S.1 a b = S0.1 a b) : zwl (fX12_best_b45 T s0 s1 S) (fun q0 => q0.2.1 a b = S0.1 a b) := by
  unfold fX12_best_b45
  refine zwl_t (fun r12 => ?_)
  exact zwl_r hS
set_option maxHeartbeats 40000 in
set_option maxRecDepth 100000 in
theorem wI_X12_best_b34 {T : zT} {k0 : Nat} {x1 : Int32} {S S0 : zS} {a b : Nat}  (hS : S.1 a b = S0.1 a b) : zwl (fX12_best_b34 T k0 x1 S) (fun q0 => q0.2.1 a b = S0.1 a b) := by
  unfold fX12_best_b34
  refine zwl_i ?_ ?_
  · exact (wI_X12_best_b45  hS)
  · exact (wI_X12_best_b45  hS)
set_option maxHeartbeats 40000 in
set_option maxRecDepth 100000 in
theorem wI_X12_best_b100 {T : zT} {s0 : Int32} {S S0 : zS} {a b : Nat}  (hS : S.1 a b = S0.1 a b) : zwl (fX12_best_b100 T s0 S) (fun q0 => q0.2.1 a b = S0.1 a b) := by
  unfold fX12_best_b100
  exact zwl_r hS
set_option maxHeartbeats 40000 in
set_option maxRecDepth 100000 in
theorem wI_X12_best {T : zT} {k0 : Nat} {x1 : Int32} {S S0 : zS} {a b : Nat} (h0 : ¬ (a = k0 ∧ b = 54)) (h1 : ¬ (a = k0 ∧ b = 55)) (h2 : ¬ (a = k0 ∧ b = 56)) (h3 : ¬ (a = k0 ∧ b = 57)) (h4 : ¬ (a = k0 ∧ b = 58)) (h5 : ¬ (a = k0 ∧ b = 59)) (h6 : ¬ a = zr T k0 53) (hS : S.1 a b = S0.1 a b) : zwl (fX12_best T k0 x1 S) (fun q0 => q0.2.1 a b = S0.1 a b) := by
  unfold fX12_best
  refine zwl_t (fun r1 => ?_)
  refine zwl_i ?_ ?_
  · exact zwl_r hS
  · refine zwl_b (wI_X12_asItIs h0 h1 h2 h3 h4 h5 hS) (fun r1 S6 e2 => ?_)
    refine zwl_b (wI_X12_mostCoin h6 e2) (fun r7 S9 e3 => ?_)
    refine zwl_i ?_ ?_
    · exact (wI_X12_best_b34  e3)
    · refine zwl_i ?_ ?_
      · exact (wI_X12_best_b34  e3)
      · refine zwl_i ?_ ?_
        · exact zwl_r e3
        · refine zwl_i ?_ ?_
          · exact (wI_X12_best_b100  e3)
          · refine zwl_i ?_ ?_
            · refine zwl_t (fun r25 => ?_)
              exact (wI_X12_best_b100  e3)
            · refine zwl_i ?_ ?_
              · refine zwl_t (fun r23 => ?_)
                exact (wI_X12_best_b100  e3)
              · refine zwl_t (fun r19 => ?_)
                refine zwl_t (fun r21 => ?_)
                exact (wI_X12_best_b100  e3)
set_option maxHeartbeats 40000 in
set_option maxRecDepth 100000 in
theorem wI_X12_fetched {T : zT} {k0 : Nat} {x1 : Int32} {S S0 : zS} {a b : Nat} (h0 : ¬ (a = k0 ∧ b = 54)) (h1 : ¬ (a = k0 ∧ b = 55)) (h2 : ¬ (a = k0 ∧ b = 56)) (h3 : ¬ (a = k0 ∧ b = 57)) (h4 : ¬ (a = k0 ∧ b = 58)) (h5 : ¬ (a = k0 ∧ b = 59)) (h6 : ¬ a = zr T k0 53) (h7 : ¬ a = zr T k0 60) (hS : S.1 a b = S0.1 a b) : zwl (fX12_fetched T k0 x1 S) (fun q0 => q0.2.1 a b = S0.1 a b) := by
  unfold fX12_fetched
  refine zwl_t (fun r1 => ?_)
  refine zwl_i ?_ ?_
  · exact zwl_r hS
  · refine zwl_b (wI_X12_asItIs h0 h1 h2 h3 h4 h5 hS) (fun r1 S6 e2 => ?_)
    refine zwl_b (wI_X12_mostCoin h6 e2) (fun r7 S9 e3 => ?_)
    refine zwl_i ?_ ?_
    · exact zwl_r e3
    · refine zwl_b (wI_X12_goesBack h7 e3) (fun r4 S13 e5 => ?_)
      refine zwl_t (fun e19 => ?_)
      refine zwl_mt (fun e19_0 => ?_) (fun e19_1 => ?_)
      · exact zwl_r e5
      · exact zwl_r e5
set_option maxHeartbeats 40000 in
set_option maxRecDepth 100000 in
theorem wI_X12_without {T : zT} {k0 : Nat} {x1 : Int32} {S S0 : zS} {a b : Nat} (h0 : ¬ (a = k0 ∧ b = 54)) (h1 : ¬ (a = k0 ∧ b = 55)) (h2 : ¬ (a = k0 ∧ b = 56)) (h3 : ¬ (a = k0 ∧ b = 57)) (h4 : ¬ (a = k0 ∧ b = 58)) (h5 : ¬ (a = k0 ∧ b = 59)) (h6 : ¬ a = zr T k0 53) (hS : S.1 a b = S0.1 a b) : zwl (fX12_without T k0 x1 S) (fun q0 => q0.2.1 a b = S0.1 a b) := by
  unfold fX12_without
  refine zwl_b (wI_X12_asItIs h0 h1 h2 h3 h4 h5 hS) (fun r1 S3 e2 => ?_)
  refine zwl_sIf h0 e2 (fun S4 e3 => ?_)
  refine zwl_b (wI_X12_mostCoin h6 e3) (fun r5 S7 e4 => ?_)
  exact zwl_r e4
set_option maxHeartbeats 40000 in
set_option maxRecDepth 100000 in
theorem wI_X12_asBest {T : zT} {k0 : Nat} {S S0 : zS} {a b : Nat} (h0 : ¬ (a = k0 ∧ b = 54)) (h1 : ¬ (a = k0 ∧ b = 55)) (h2 : ¬ (a = k0 ∧ b = 56)) (h3 : ¬ (a = k0 ∧ b = 57)) (h4 : ¬ (a = k0 ∧ b = 58)) (h5 : ¬ (a = k0 ∧ b = 59)) (h6 : ¬ a = zr T k0 53) (hS : S.1 a b = S0.1 a b) : zwl (fX12_asBest T k0 S) (fun q0 => q0.2.1 a b = S0.1 a b) := by
  unfold fX12_asBest
  refine zwl_b (wI_X12_asItIs h0 h1 h2 h3 h4 h5 hS) (fun r1 S3 e2 => ?_)
  refine zwl_b (wI_X12_mostCoin h6 e2) (fun r4 S6 e3 => ?_)
  exact zwl_r e3
set_option maxHeartbeats 40000 in
set_option maxRecDepth 100000 in
theorem wI_X12_borrowedIn_b39 {T : zT} {S S0 : zS} {a b : Nat}  (hS : S.1 a b = S0.1 a b) : zwl (fX12_borrowedIn_b39 T S) (fun q0 => q0.2.1 a b = S0.1 a b) := by
  unfold fX12_borrowedIn_b39
  exact zwl_r hS
set_option maxHeartbeats 40000 in
set_option maxRecDepth 100000 in
theorem wI_X12_borrowedIn_b63 {T : zT} {s0 : Int32} {S S0 : zS} {a b : Nat}  (hS : S.1 a b = S0.1 a b) : zwl (fX12_borrowedIn_b63 T s0 S) (fun q0 => q0.2.1 a b = S0.1 a b) := by
  unfold fX12_borrowedIn_b63
  exact zwl_r hS
set_option maxHeartbeats 40000 in
set_option maxRecDepth 100000 in
theorem wI_X12_borrowedIn {T : zT} {k0 : Nat} {x1 : Int32} {S S0 : zS} {a b : Nat} (h0 : ¬ (a = k0 ∧ b = 54)) (h1 : ¬ (a = k0 ∧ b = 55)) (h2 : ¬ (a = k0 ∧ b = 56)) (h3 : ¬ (a = k0 ∧ b = 57)) (h4 : ¬ (a = k0 ∧ b = 58)) (h5 : ¬ (a = k0 ∧ b = 59)) (h6 : ¬ a = zr T k0 53) (hS : S.1 a b = S0.1 a b) : zwl (fX12_borrowedIn T k0 x1 S) (fun q0 => q0.2.1 a b = S0.1 a b) := by
  unfold fX12_borrowedIn
  refine zwl_b (wI_X12_asItIs h0 h1 h2 h3 h4 h5 hS) (fun r1 S3 e2 => ?_)
  refine zwl_g ?_
  refine zwl_i ?_ ?_
  · exact (wI_X12_borrowedIn_b39  e2)
  · refine zwl_g ?_
    refine zwl_g ?_
    refine zwl_i ?_ ?_
    · exact (wI_X12_borrowedIn_b39  e2)
    · refine zwl_g ?_
      refine zwl_i ?_ ?_
      · refine zwl_sIf h4 e2 (fun S11 e3 => ?_)
        refine zwl_b (wI_X12_mostCoin h6 e3) (fun r12 S14 e4 => ?_)
        refine zwl_i ?_ ?_
        · exact (wI_X12_borrowedIn_b63  e4)
        · exact (wI_X12_borrowedIn_b63  e4)
      · exact (wI_X12_borrowedIn_b39  e2)
set_option maxHeartbeats 40000 in
set_option maxRecDepth 100000 in
theorem wI_X12_soldBy_b53 {T : zT} {s0 : Int32} {S S0 : zS} {a b : Nat}  (hS : S.1 a b = S0.1 a b) : zwl (fX12_soldBy_b53 T s0 S) (fun q0 => q0.2.1 a b = S0.1 a b) := by
  unfold fX12_soldBy_b53
  exact zwl_r hS
set_option maxHeartbeats 40000 in
set_option maxRecDepth 100000 in
theorem wI_X12_soldBy_b27 {T : zT} {k0 : Nat} {x1 : Int32} {x2 : Int32} {S S0 : zS} {a b : Nat} (h0 : ¬ (a = k0 ∧ b = 56)) (h1 : ¬ (a = k0 ∧ b = 57)) (h2 : ¬ a = zr T k0 53) (hS : S.1 a b = S0.1 a b) : zwl (fX12_soldBy_b27 T k0 x1 x2 S) (fun q0 => q0.2.1 a b = S0.1 a b) := by
  unfold fX12_soldBy_b27
  refine zwl_sIf h0 hS (fun S6 e1 => ?_)
  refine zwl_sIf h1 e1 (fun S7 e2 => ?_)
  refine zwl_b (wI_X12_mostCoin h2 e2) (fun r8 S10 e3 => ?_)
  refine zwl_i ?_ ?_
  · exact (wI_X12_soldBy_b53  e3)
  · exact (wI_X12_soldBy_b53  e3)
set_option maxHeartbeats 40000 in
set_option maxRecDepth 100000 in
theorem wI_X12_soldBy {T : zT} {k0 : Nat} {x1 : Int32} {x2 : Int32} {S S0 : zS} {a b : Nat} (h0 : ¬ (a = k0 ∧ b = 54)) (h1 : ¬ (a = k0 ∧ b = 55)) (h2 : ¬ (a = k0 ∧ b = 56)) (h3 : ¬ (a = k0 ∧ b = 57)) (h4 : ¬ (a = k0 ∧ b = 58)) (h5 : ¬ (a = k0 ∧ b = 59)) (h6 : ¬ a = zr T k0 53) (hS : S.1 a b = S0.1 a b) : zwl (fX12_soldBy T k0 x1 x2 S) (fun q0 => q0.2.1 a b = S0.1 a b) := by
  unfold fX12_soldBy
  refine zwl_b (wI_X12_asItIs h0 h1 h2 h3 h4 h5 hS) (fun r1 S3 e2 => ?_)
  refine zwl_g ?_
  refine zwl_i ?_ ?_
  · exact (wI_X12_soldBy_b27 h2 h3 h6 e2)
  · refine zwl_g ?_
    refine zwl_i ?_ ?_
    · exact (wI_X12_soldBy_b27 h2 h3 h6 e2)
    · exact zwl_r e2
set_option maxHeartbeats 40000 in
set_option maxRecDepth 100000 in
theorem wI_X12_finest_b50 {T : zT} {k0 : Nat} {x1 : Int32} {x2 : Int32} {x3 : Int32} {S S0 : zS} {a b : Nat}  (hS : S.1 a b = S0.1 a b) : zwl (fX12_finest_b50 T k0 x1 x2 x3 S) (Sum.elim (fun q1 => q1.2.2.2.1 a b = S0.1 a b) (fun q1 => q1.2.1 a b = S0.1 a b)) := by
  unfold fX12_finest_b50
  refine zwl_v (fun u6 => ?_)
  exact zwl_r hS
set_option maxHeartbeats 40000 in
set_option maxRecDepth 100000 in
theorem wI_X12_finest_b43 {T : zT} {k0 : Nat} {x3 : Int32} {S S0 : zS} {a b : Nat}  (hS : S.1 a b = S0.1 a b) : zwl (fX12_finest_b43 T k0 x3 S) (Sum.elim (fun q1 => q1.2.2.2.1 a b = S0.1 a b) (fun q1 => q1.2.1 a b = S0.1 a b)) := by
  unfold fX12_finest_b43
  refine zwl_v (fun u8 => ?_)
  exact (wI_X12_finest_b50  hS)
set_option maxHeartbeats 40000 in
set_option maxRecDepth 100000 in
theorem wI_X12_finest_l7 {T : zT} {k0 : Nat} {x1 : Int32} {x2 : Int32} {x3 : Int32} {S S0 : zS} {a b : Nat} (h0 : ¬ a = zr T k0 40) (h1 : ¬ a = zr T k0 41) (h2 : ¬ a = zr T k0 42) (h3 : ¬ a = zr T k0 43) (h4 : ¬ a = zr T k0 46) (h5 : ¬ (a = k0 ∧ b = 48)) (h6 : ¬ (a = k0 ∧ b = 47)) (h7 : ¬ (a = k0 ∧ b = 49)) (h8 : ¬ (a = k0 ∧ b = 50)) (h9 : ¬ (a = k0 ∧ b = 51)) (h10 : ¬ a = zr T k0 61) (hS : S.1 a b = S0.1 a b) : zwl (fX12_finest_l7 T k0 x1 x2 x3 S) (Sum.elim (fun q1 => q1.2.2.2.1 a b = S0.1 a b) (fun q1 => q1.2.1 a b = S0.1 a b)) := by
  unfold fX12_finest_l7
  refine zwl_i ?_ ?_
  · exact zwl_r hS
  · refine zwl_b (wI_X12_follows h0 h1 h2 h3 h4 h5 h6 h7 h8 h9 h10 hS) (fun r1 S4 e2 => ?_)
    refine zwl_i ?_ ?_
    · refine zwl_i ?_ ?_
      · exact (wI_X12_finest_b43  e2)
      · refine zwl_i ?_ ?_
        · exact (wI_X12_finest_b50  e2)
        · exact (wI_X12_finest_b43  e2)
    · exact (wI_X12_finest_b50  e2)
set_option maxHeartbeats 40000 in
set_option maxRecDepth 100000 in
theorem wI_X12_finest {T : zT} {k0 : Nat} {S S0 : zS} {a b : Nat} (h0 : ¬ a = zr T k0 40) (h1 : ¬ a = zr T k0 41) (h2 : ¬ a = zr T k0 42) (h3 : ¬ a = zr T k0 43) (h4 : ¬ a = zr T k0 46) (h5 : ¬ (a = k0 ∧ b = 48)) (h6 : ¬ (a = k0 ∧ b = 47)) (h7 : ¬ (a = k0 ∧ b = 49)) (h8 : ¬ (a = k0 ∧ b = 50)) (h9 : ¬ (a = k0 ∧ b = 51)) (h10 : ¬ a = zr T k0 61) (hS : S.1 a b = S0.1 a b) : zwl (fX12_finest T k0 S) (fun q0 => q0.2.1 a b = S0.1 a b) := by
  unfold fX12_finest
  refine zwl_b1 (zwl_lp (I := (fun q0 => q0.2.2.2.1 a b = S0.1 a b)) (Q := (fun q0 => q0.2.1 a b = S0.1 a b)) (fun a e3 => (wI_X12_finest_l7 h0 h1 h2 h3 h4 h5 h6 h7 h8 h9 h10 e3)) hS) (fun e10 e1 => ?_)
  exact zwl_r e1
set_option maxHeartbeats 40000 in
set_option maxRecDepth 100000 in
theorem wI_X12_parts_b21 {T : zT} {S S0 : zS} {a b : Nat}  (hS : S.1 a b = S0.1 a b) : zwl (fX12_parts_b21 T S) (fun q0 => q0.2.1 a b = S0.1 a b) := by
  unfold fX12_parts_b21
  exact zwl_r hS
set_option maxHeartbeats 40000 in
set_option maxRecDepth 100000 in
theorem wI_X12_parts_l31 {T : zT} {k0 : Nat} {x1 : Int32} {x3 : Int32} {S S0 : zS} {a b : Nat} (h0 : ¬ a = zr T k0 62) (hS : S.1 a b = S0.1 a b) : zwl (fX12_parts_l31 T k0 x1 x3 S) (Sum.elim (fun q1 => q1.2.1 a b = S0.1 a b) (fun q1 => q1.1 a b = S0.1 a b)) := by
  unfold fX12_parts_l31
  refine zwl_i ?_ ?_
  · exact zwl_r hS
  · refine zwl_g ?_
    refine zwl_g ?_
    refine zwl_sIa h0 hS (fun S14 e1 => ?_)
    refine zwl_v (fun u15 => ?_)
    exact zwl_r e1
set_option maxHeartbeats 40000 in
set_option maxRecDepth 100000 in
theorem wI_X12_parts {T : zT} {k0 : Nat} {x1 : Int32} {x2 : Int32} {S S0 : zS} {a b : Nat} (h0 : ¬ a = zr T k0 40) (h1 : ¬ a = zr T k0 41) (h2 : ¬ a = zr T k0 42) (h3 : ¬ a = zr T k0 43) (h4 : ¬ a = zr T k0 46) (h5 : ¬ (a = k0 ∧ b = 48)) (h6 : ¬ (a = k0 ∧ b = 47)) (h7 : ¬ (a = k0 ∧ b = 49)) (h8 : ¬ (a = k0 ∧ b = 50)) (h9 : ¬ (a = k0 ∧ b = 51)) (h10 : ¬ a = zr T k0 61) (h11 : ¬ a = zr T k0 62) (hS : S.1 a b = S0.1 a b) : zwl (fX12_parts T k0 x1 x2 S) (fun q0 => q0.2.1 a b = S0.1 a b) := by
  unfold fX12_parts
  refine zwl_t (fun r1 => ?_)
  refine zwl_i ?_ ?_
  · exact (wI_X12_parts_b21  hS)
  · refine zwl_t (fun r4 => ?_)
    refine zwl_i ?_ ?_
    · exact (wI_X12_parts_b21  hS)
    · refine zwl_i ?_ ?_
      · exact (wI_X12_parts_b21  hS)
      · refine zwl_b (wI_X12_follows h0 h1 h2 h3 h4 h5 h6 h7 h8 h9 h10 hS) (fun r1 S10 e2 => ?_)
        refine zwl_b1 (zwl_lp (I := (fun q0 => q0.2.1 a b = S0.1 a b)) (Q := (fun q0 => q0.1 a b = S0.1 a b)) (fun a e5 => (wI_X12_parts_l31 h11 e5)) e2) (fun e16 e3 => ?_)
        refine zwl_b (wI_X12_follows h0 h1 h2 h3 h4 h5 h6 h7 h8 h9 h10 e3) (fun r6 S19 e7 => ?_)
        refine zwl_t (fun e26 => ?_)
        exact zwl_r e7
set_option maxHeartbeats 40000 in
set_option maxRecDepth 100000 in
theorem wI_X12_goes_b24 {T : zT} {S S0 : zS} {a b : Nat}  (hS : S.1 a b = S0.1 a b) : zwl (fX12_goes_b24 T S) (fun q0 => q0.2.1 a b = S0.1 a b) := by
  unfold fX12_goes_b24
  exact zwl_r hS
set_option maxHeartbeats 40000 in
set_option maxRecDepth 100000 in
theorem wI_X12_goes_b77 {T : zT} {k0 : Nat} {x1 : Int32} {x3 : Int32} {x5 : Int32} {s0 : Int32} {s1 : Int32} {S S0 : zS} {a b : Nat}  (hS : S.1 a b = S0.1 a b) : zwl (fX12_goes_b77 T k0 x1 x3 x5 s0 s1 S) (Sum.elim (fun q1 => q1.2.2.1 a b = S0.1 a b) (fun q1 => q1.2.1 a b = S0.1 a b)) := by
  unfold fX12_goes_b77
  refine zwl_v (fun u14 => ?_)
  refine zwl_v (fun u15 => ?_)
  exact zwl_r hS
set_option maxHeartbeats 40000 in
set_option maxRecDepth 100000 in
theorem wI_X12_goes_b76 {T : zT} {k0 : Nat} {x1 : Int32} {x3 : Int32} {x5 : Int32} {s0 : Int32} {S S0 : zS} {a b : Nat}  (hS : S.1 a b = S0.1 a b) : zwl (fX12_goes_b76 T k0 x1 x3 x5 s0 S) (Sum.elim (fun q1 => q1.2.2.1 a b = S0.1 a b) (fun q1 => q1.2.1 a b = S0.1 a b)) := by
  unfold fX12_goes_b76
  exact (wI_X12_goes_b77  hS)
set_option maxHeartbeats 40000 in
set_option maxRecDepth 100000 in
theorem wI_X12_goes_l38 {T : zT} {k0 : Nat} {x1 : Int32} {x3 : Int32} {x4 : Int32} {x5 : Int32} {S S0 : zS} {a b : Nat} (h0 : ¬ a = zr T k0 40) (h1 : ¬ a = zr T k0 41) (h2 : ¬ a = zr T k0 42) (h3 : ¬ a = zr T k0 43) (h4 : ¬ a = zr T k0 46) (h5 : ¬ (a = k0 ∧ b = 48)) (h6 : ¬ (a = k0 ∧ b = 47)) (h7 : ¬ (a = k0 ∧ b = 49)) (h8 : ¬ (a = k0 ∧ b = 50)) (h9 : ¬ (a = k0 ∧ b = 51)) (h10 : ¬ a = zr T k0 61) (hS : S.1 a b = S0.1 a b) : zwl (fX12_goes_l38 T k0 x1 x3 x4 x5 S) (Sum.elim (fun q1 => q1.2.2.1 a b = S0.1 a b) (fun q1 => q1.2.1 a b = S0.1 a b)) := by
  unfold fX12_goes_l38
  refine zwl_i ?_ ?_
  · exact zwl_r hS
  · refine zwl_b (wI_X12_follows h0 h1 h2 h3 h4 h5 h6 h7 h8 h9 h10 hS) (fun r1 S12 e2 => ?_)
    refine zwl_i ?_ ?_
    · refine zwl_t (fun r16 => ?_)
      refine zwl_t (fun r18 => ?_)
      refine zwl_i ?_ ?_
      · exact (wI_X12_goes_b77  e2)
      · exact (wI_X12_goes_b76  e2)
    · exact (wI_X12_goes_b76  e2)
set_option maxHeartbeats 40000 in
set_option maxRecDepth 100000 in
theorem wI_X12_goes {T : zT} {k0 : Nat} {x1 : Int32} {x2 : Int32} {x3 : Int32} {S S0 : zS} {a b : Nat} (h0 : ¬ a = zr T k0 40) (h1 : ¬ a = zr T k0 41) (h2 : ¬ a = zr T k0 42) (h3 : ¬ a = zr T k0 43) (h4 : ¬ a = zr T k0 46) (h5 : ¬ (a = k0 ∧ b = 48)) (h6 : ¬ (a = k0 ∧ b = 47)) (h7 : ¬ (a = k0 ∧ b = 49)) (h8 : ¬ (a = k0 ∧ b = 50)) (h9 : ¬ (a = k0 ∧ b = 51)) (h10 : ¬ a = zr T k0 61) (hS : S.1 a b = S0.1 a b) : zwl (fX12_goes T k0 x1 x2 x3 S) (fun q0 => q0.2.1 a b = S0.1 a b) := by
  unfold fX12_goes
  refine zwl_t (fun r1 => ?_)
  refine zwl_i ?_ ?_
  · exact (wI_X12_goes_b24  hS)
  · refine zwl_i ?_ ?_
    · exact (wI_X12_goes_b24  hS)
    · refine zwl_t (fun r5 => ?_)
      refine zwl_i ?_ ?_
      · exact (wI_X12_goes_b24  hS)
      · refine zwl_sIn hS (fun S8 e1 => ?_)
        refine zwl_b1 (zwl_lp (I := (fun q0 => q0.2.2.1 a b = S0.1 a b)) (Q := (fun q0 => q0.2.1 a b = S0.1 a b)) (fun a e4 => (wI_X12_goes_l38 h0 h1 h2 h3 h4 h5 h6 h7 h8 h9 h10 e4)) e1) (fun e21 e2 => ?_)
        exact zwl_r e2
set_option maxHeartbeats 40000 in
set_option maxRecDepth 100000 in
theorem wI_X6_open {T : zT} {k0 : Nat} {k1 : Nat} {n1 : Nat} {x2 : Int32} {k3 : Nat} {x4 : Int32} {S S0 : zS} {a b : Nat} (h0 : ¬ (a = zr T k0 0 ∧ b = 3)) (h1 : ¬ a = zr T (zr T k0 0) 0) (h2 : ¬ a = zr T (zr T k0 0) 1) (h3 : ¬ a = zr T (zr T k0 0) 2) (h4 : ¬ (a = k0 ∧ b = 1)) (h5 : ¬ (a = k0 ∧ b = 2)) (h6 : ¬ (a = k0 ∧ b = 3)) (h7 : ¬ (a = k0 ∧ b = 4)) (h8 : ¬ (a = k0 ∧ b = 5)) (h9 : ¬ (a = k0 ∧ b = 6)) (h10 : ¬ (a = k0 ∧ b = 7)) (h11 : ¬ (a = k0 ∧ b = 8)) (hS : S.1 a b = S0.1 a b) : zwl (fX6_open T k0 k1 n1 x2 k3 x4 S) (fun q0 => q0.2.1 a b = S0.1 a b) := by
  unfold fX6_open
  refine zwl_b (wI_X10_split h0 h1 h2 h3 hS) (fun r1 S3 e2 => ?_)
  refine zwl_sIf h4 e2 (fun S4 e3 => ?_)
  refine zwl_b (wI_X6_next h4 h5 h6 h7 e3) (fun r4 S7 e5 => ?_)
  refine zwl_sIf h8 e5 (fun S8 e6 => ?_)
  refine zwl_sIf h9 e6 (fun S9 e7 => ?_)
  refine zwl_sIf h10 e7 (fun S10 e8 => ?_)
  refine zwl_g ?_
  refine zwl_sIf h11 e8 (fun S12 e9 => ?_)
  exact zwl_r e9
set_option maxHeartbeats 40000 in
set_option maxRecDepth 100000 in
theorem wI_X12_compared_b139 {T : zT} {s0 : Int32} {s1 : Nat} {S S0 : zS} {a b : Nat} (h0 : ¬ a = zr T s1 12) (h1 : ¬ a = zr T s1 13) (h2 : ¬ (a = s1 ∧ b = 6)) (hS : S.1 a b = S0.1 a b) : zwl (fX12_compared_b139 T s0 s1 S) (fun q0 => q0.2.1 a b = S0.1 a b) := by
  unfold fX12_compared_b139
  refine zwl_b (wI_X12_entry h0 h1 h2 hS) (fun r1 S22 e2 => ?_)
  exact zwl_r e2
set_option maxHeartbeats 40000 in
set_option maxRecDepth 100000 in
theorem wI_X12_compared_b90 {T : zT} {k0 : Nat} {x1 : Int32} {x2 : Int32} {s0 : Int32} {s1 : Int32} {s2 : Nat} {S S0 : zS} {a b : Nat} (h0 : ¬ (a = s2 ∧ b = 2)) (h1 : ¬ (a = k0 ∧ b = 2)) (h2 : ¬ (a = k0 ∧ b = 3)) (h3 : ¬ (a = k0 ∧ b = 8)) (h4 : ¬ a = zr T k0 12) (h5 : ¬ a = zr T k0 13) (h6 : ¬ (a = k0 ∧ b = 6)) (hS : S.1 a b = S0.1 a b) : zwl (fX12_compared_b90 T k0 x1 x2 s0 s1 s2 S) (fun q0 => q0.2.1 a b = S0.1 a b) := by
  unfold fX12_compared_b90
  refine zwl_sIf h0 hS (fun S13 e1 => ?_)
  refine zwl_b (wI_X12_sum h1 h2 h3 h4 h5 h6 e1) (fun r2 S16 e3 => ?_)
  refine zwl_i ?_ ?_
  · exact (wI_X12_compared_b139 h4 h5 h6 e3)
  · refine zwl_i ?_ ?_
    · refine zwl_i ?_ ?_
      · exact (wI_X12_compared_b139 h4 h5 h6 e3)
      · exact (wI_X12_compared_b139 h4 h5 h6 e3)
    · refine zwl_i ?_ ?_
      · exact (wI_X12_compared_b139 h4 h5 h6 e3)
      · exact (wI_X12_compared_b139 h4 h5 h6 e3)
set_option maxHeartbeats 40000 in
set_option maxRecDepth 100000 in
theorem wI_X12_compared_b75 {T : zT} {k0 : Nat} {x1 : Int32} {s0 : Int32} {S S0 : zS} {a b : Nat} (h0 : ¬ (a = k0 ∧ b = 2)) (h1 : ¬ (a = k0 ∧ b = 3)) (h2 : ¬ (a = k0 ∧ b = 8)) (h3 : ¬ a = zr T k0 12) (h4 : ¬ a = zr T k0 13) (h5 : ¬ (a = k0 ∧ b = 6)) (hS : S.1 a b = S0.1 a b) : zwl (fX12_compared_b75 T k0 x1 s0 S) (fun q0 => q0.2.1 a b = S0.1 a b) := by
  unfold fX12_compared_b75
  refine zwl_i ?_ ?_
  · exact (wI_X12_compared_b90 h0 h0 h1 h2 h3 h4 h5 hS)
  · exact (wI_X12_compared_b90 h0 h0 h1 h2 h3 h4 h5 hS)
set_option maxHeartbeats 40000 in
set_option maxRecDepth 100000 in
theorem wI_X12_compared_b74 {T : zT} {k0 : Nat} {x1 : Int32} {S S0 : zS} {a b : Nat} (h0 : ¬ (a = k0 ∧ b = 2)) (h1 : ¬ (a = k0 ∧ b = 3)) (h2 : ¬ (a = k0 ∧ b = 8)) (h3 : ¬ a = zr T k0 12) (h4 : ¬ a = zr T k0 13) (h5 : ¬ (a = k0 ∧ b = 6)) (hS : S.1 a b = S0.1 a b) : zwl (fX12_compared_b74 T k0 x1 S) (fun q0 => q0.2.1 a b = S0.1 a b) := by
  unfold fX12_compared_b74
  exact (wI_X12_compared_b75 h0 h1 h2 h3 h4 h5 hS)
set_option maxHeartbeats 40000 in
set_option maxRecDepth 100000 in
theorem wI_X12_compared_b37 {T : zT} {k0 : Nat} {x1 : Int32} {S S0 : zS} {a b : Nat} (h0 : ¬ (a = k0 ∧ b = 3)) (h1 : ¬ (a = k0 ∧ b = 8)) (h2 : ¬ (a = k0 ∧ b = 2)) (h3 : ¬ a = zr T k0 12) (h4 : ¬ a = zr T k0 13) (h5 : ¬ (a = k0 ∧ b = 6)) (hS : S.1 a b = S0.1 a b) : zwl (fX12_compared_b37 T k0 x1 S) (fun q0 => q0.2.1 a b = S0.1 a b) := by
  unfold fX12_compared_b37
  refine zwl_b (wI_X12_isCounted h0 h1 hS) (fun r1 S9 e2 => ?_)
  refine zwl_sIf h2 e2 (fun S10 e3 => ?_)
  refine zwl_i ?_ ?_
  · exact (wI_X12_compared_b74 h2 h0 h1 h3 h4 h5 e3)
  · refine zwl_t (fun r24 => ?_)
    refine zwl_i ?_ ?_
    · exact (wI_X12_compared_b75 h2 h0 h1 h3 h4 h5 e3)
    · exact (wI_X12_compared_b74 h2 h0 h1 h3 h4 h5 e3)
set_option maxHeartbeats 40000 in
set_option maxRecDepth 100000 in
theorem wI_X12_compared {T : zT} {k0 : Nat} {S S0 : zS} {a b : Nat} (h0 : ¬ (a = k0 ∧ b = 2)) (h1 : ¬ (a = k0 ∧ b = 3)) (h2 : ¬ (a = k0 ∧ b = 8)) (h3 : ¬ a = zr T k0 12) (h4 : ¬ a = zr T k0 13) (h5 : ¬ (a = k0 ∧ b = 6)) (hS : S.1 a b = S0.1 a b) : zwl (fX12_compared T k0 S) (fun q0 => q0.2.1 a b = S0.1 a b) := by
  unfold fX12_compared
  refine zwl_b (wI_X12_sum h0 h1 h2 h3 h4 h5 hS) (fun r1 S3 e2 => ?_)
  refine zwl_t (fun r4 => ?_)
  refine zwl_i ?_ ?_
  · exact (wI_X12_compared_b37 h1 h2 h0 h3 h4 h5 e2)
  · refine zwl_i ?_ ?_
    · exact (wI_X12_compared_b37 h1 h2 h0 h3 h4 h5 e2)
    · refine zwl_i ?_ ?_
      · exact (wI_X12_compared_b37 h1 h2 h0 h3 h4 h5 e2)
      · refine zwl_b (wI_X12_fails h1 e2) (fun r3 S31 e4 => ?_)
        exact zwl_r e4
set_option maxHeartbeats 40000 in
set_option maxRecDepth 100000 in
theorem wI_X12_hangsOn_b17 {T : zT} {s0 : Int32} {s1 : Int32} {S S0 : zS} {a b : Nat}  (hS : S.1 a b = S0.1 a b) : zwl (fX12_hangsOn_b17 T s0 s1 S) (fun q0 => q0.2.1 a b = S0.1 a b) := by
  unfold fX12_hangsOn_b17
  exact zwl_r hS
set_option maxHeartbeats 40000 in
set_option maxRecDepth 100000 in
theorem wI_X12_hangsOn {T : zT} {k0 : Nat} {x1 : Int32} {x2 : Int32} {S S0 : zS} {a b : Nat} (h0 : ¬ (a = k0 ∧ b = 54)) (h1 : ¬ (a = k0 ∧ b = 55)) (h2 : ¬ (a = k0 ∧ b = 56)) (h3 : ¬ (a = k0 ∧ b = 57)) (h4 : ¬ (a = k0 ∧ b = 58)) (h5 : ¬ (a = k0 ∧ b = 59)) (h6 : ¬ a = zr T k0 53) (hS : S.1 a b = S0.1 a b) : zwl (fX12_hangsOn T k0 x1 x2 S) (fun q0 => q0.2.1 a b = S0.1 a b) := by
  unfold fX12_hangsOn
  refine zwl_b (wI_X12_without h0 h1 h2 h3 h4 h5 h6 hS) (fun r1 S3 e1 => ?_)
  refine zwl_i ?_ ?_
  · exact (wI_X12_hangsOn_b17  e1)
  · exact (wI_X12_hangsOn_b17  e1)
set_option maxHeartbeats 40000 in
set_option maxRecDepth 100000 in
theorem wI_X12_wise_b69 {T : zT} {s0 : Int32} {S S0 : zS} {a b : Nat}  (hS : S.1 a b = S0.1 a b) : zwl (fX12_wise_b69 T s0 S) (fun q0 => q0.2.1 a b = S0.1 a b) := by
  unfold fX12_wise_b69
  exact zwl_r hS
set_option maxHeartbeats 40000 in
set_option maxRecDepth 100000 in
theorem wI_X12_wise_b60 {T : zT} {S S0 : zS} {a b : Nat}  (hS : S.1 a b = S0.1 a b) : zwl (fX12_wise_b60 T S) (fun q0 => q0.2.1 a b = S0.1 a b) := by
  unfold fX12_wise_b60
  exact (wI_X12_wise_b69  hS)
set_option maxHeartbeats 40000 in
set_option maxRecDepth 100000 in
theorem wI_X12_wise {T : zT} {k0 : Nat} {x1 : Int32} {S S0 : zS} {a b : Nat} (h0 : ¬ (a = k0 ∧ b = 54)) (h1 : ¬ (a = k0 ∧ b = 55)) (h2 : ¬ (a = k0 ∧ b = 56)) (h3 : ¬ (a = k0 ∧ b = 57)) (h4 : ¬ (a = k0 ∧ b = 58)) (h5 : ¬ (a = k0 ∧ b = 59)) (h6 : ¬ a = zr T k0 53) (hS : S.1 a b = S0.1 a b) : zwl (fX12_wise T k0 x1 S) (fun q0 => q0.2.1 a b = S0.1 a b) := by
  unfold fX12_wise
  refine zwl_t (fun r1 => ?_)
  refine zwl_i ?_ ?_
  · exact zwl_r hS
  · refine zwl_b (wI_X12_asBest h0 h1 h2 h3 h4 h5 h6 hS) (fun r4 S6 e1 => ?_)
    refine zwl_b (wI_X12_asItIs h0 h1 h2 h3 h4 h5 e1) (fun r2 S9 e3 => ?_)
    refine zwl_sIf h1 e3 (fun S10 e4 => ?_)
    refine zwl_g ?_
    refine zwl_g ?_
    refine zwl_sIf h5 e4 (fun S13 e5 => ?_)
    refine zwl_b (wI_X12_mostCoin h6 e5) (fun r14 S16 e6 => ?_)
    refine zwl_i ?_ ?_
    · exact (wI_X12_wise_b60  e6)
    · refine zwl_i ?_ ?_
      · exact (wI_X12_wise_b60  e6)
      · exact (wI_X12_wise_b69  e6)
set_option maxHeartbeats 40000 in
set_option maxRecDepth 100000 in
theorem wI_X12_borrowed_b17 {T : zT} {s0 : Int32} {S S0 : zS} {a b : Nat}  (hS : S.1 a b = S0.1 a b) : zwl (fX12_borrowed_b17 T s0 S) (fun q0 => q0.2.1 a b = S0.1 a b) := by
  unfold fX12_borrowed_b17
  exact zwl_r hS
set_option maxHeartbeats 40000 in
set_option maxRecDepth 100000 in
theorem wI_X12_borrowed {T : zT} {k0 : Nat} {x1 : Int32} {S S0 : zS} {a b : Nat} (h0 : ¬ (a = k0 ∧ b = 54)) (h1 : ¬ (a = k0 ∧ b = 55)) (h2 : ¬ (a = k0 ∧ b = 56)) (h3 : ¬ (a = k0 ∧ b = 57)) (h4 : ¬ (a = k0 ∧ b = 58)) (h5 : ¬ (a = k0 ∧ b = 59)) (h6 : ¬ a = zr T k0 53) (hS : S.1 a b = S0.1 a b) : zwl (fX12_borrowed T k0 x1 S) (fun q0 => q0.2.1 a b = S0.1 a b) := by
  unfold fX12_borrowed
  refine zwl_t (fun r1 => ?_)
  refine zwl_i ?_ ?_
  · exact (wI_X12_borrowed_b17  hS)
  · refine zwl_b (wI_X12_borrowedIn h0 h1 h2 h3 h4 h5 h6 hS) (fun r4 S6 e1 => ?_)
    exact (wI_X12_borrowed_b17  e1)
set_option maxHeartbeats 40000 in
set_option maxRecDepth 100000 in
theorem wI_X12_when_b45 {T : zT} {k0 : Nat} {x1 : Int32} {x2 : Int32} {x3 : Int32} {S S0 : zS} {a b : Nat}  (hS : S.1 a b = S0.1 a b) : zwl (fX12_when_b45 T k0 x1 x2 x3 S) (Sum.elim (fun q1 => q1.2.2.2.1 a b = S0.1 a b) (fun q1 => q1.2.1 a b = S0.1 a b)) := by
  unfold fX12_when_b45
  refine zwl_v (fun u10 => ?_)
  exact zwl_r hS
set_option maxHeartbeats 40000 in
set_option maxRecDepth 100000 in
theorem wI_X12_when_l10 {T : zT} {k0 : Nat} {x1 : Int32} {x2 : Int32} {x3 : Int32} {S S0 : zS} {a b : Nat} (h0 : ¬ (a = k0 ∧ b = 54)) (h1 : ¬ (a = k0 ∧ b = 55)) (h2 : ¬ (a = k0 ∧ b = 56)) (h3 : ¬ (a = k0 ∧ b = 57)) (h4 : ¬ (a = k0 ∧ b = 58)) (h5 : ¬ (a = k0 ∧ b = 59)) (h6 : ¬ a = zr T k0 53) (hS : S.1 a b = S0.1 a b) : zwl (fX12_when_l10 T k0 x1 x2 x3 S) (Sum.elim (fun q1 => q1.2.2.2.1 a b = S0.1 a b) (fun q1 => q1.2.1 a b = S0.1 a b)) := by
  unfold fX12_when_l10
  refine zwl_g ?_
  refine zwl_i ?_ ?_
  · exact zwl_r hS
  · refine zwl_b (wI_X12_borrowedIn h0 h1 h2 h3 h4 h5 h6 hS) (fun r6 S8 e1 => ?_)
    refine zwl_i ?_ ?_
    · exact (wI_X12_when_b45  e1)
    · refine zwl_i ?_ ?_
      · exact (wI_X12_when_b45  e1)
      · exact (wI_X12_when_b45  e1)
set_option maxHeartbeats 40000 in
set_option maxRecDepth 100000 in
theorem wI_X12_when {T : zT} {k0 : Nat} {S S0 : zS} {a b : Nat} (h0 : ¬ (a = k0 ∧ b = 54)) (h1 : ¬ (a = k0 ∧ b = 55)) (h2 : ¬ (a = k0 ∧ b = 56)) (h3 : ¬ (a = k0 ∧ b = 57)) (h4 : ¬ (a = k0 ∧ b = 58)) (h5 : ¬ (a = k0 ∧ b = 59)) (h6 : ¬ a = zr T k0 53) (hS : S.1 a b = S0.1 a b) : zwl (fX12_when T k0 S) (fun q0 => q0.2.1 a b = S0.1 a b) := by
  unfold fX12_when
  refine zwl_b (wI_X12_asBest h0 h1 h2 h3 h4 h5 h6 hS) (fun r1 S3 e1 => ?_)
  refine zwl_b1 (zwl_lp (I := (fun q0 => q0.2.2.2.1 a b = S0.1 a b)) (Q := (fun q0 => q0.2.1 a b = S0.1 a b)) (fun a e4 => (wI_X12_when_l10 h0 h1 h2 h3 h4 h5 h6 e4)) e1) (fun e12 e2 => ?_)
  exact zwl_r e2
set_option maxHeartbeats 40000 in
set_option maxRecDepth 100000 in
theorem wI_X12_sold_b26 {T : zT} {s0 : Int32} {S S0 : zS} {a b : Nat}  (hS : S.1 a b = S0.1 a b) : zwl (fX12_sold_b26 T s0 S) (fun q0 => q0.2.1 a b = S0.1 a b) := by
  unfold fX12_sold_b26
  exact zwl_r hS
set_option maxHeartbeats 40000 in
set_option maxRecDepth 100000 in
theorem wI_X12_sold_b25 {T : zT} {S S0 : zS} {a b : Nat}  (hS : S.1 a b = S0.1 a b) : zwl (fX12_sold_b25 T S) (fun q0 => q0.2.1 a b = S0.1 a b) := by
  unfold fX12_sold_b25
  exact (wI_X12_sold_b26  hS)
set_option maxHeartbeats 40000 in
set_option maxRecDepth 100000 in
theorem wI_X12_sold {T : zT} {k0 : Nat} {x1 : Int32} {x2 : Int32} {S S0 : zS} {a b : Nat} (h0 : ¬ (a = k0 ∧ b = 54)) (h1 : ¬ (a = k0 ∧ b = 55)) (h2 : ¬ (a = k0 ∧ b = 56)) (h3 : ¬ (a = k0 ∧ b = 57)) (h4 : ¬ (a = k0 ∧ b = 58)) (h5 : ¬ (a = k0 ∧ b = 59)) (h6 : ¬ a = zr T k0 53) (hS : S.1 a b = S0.1 a b) : zwl (fX12_sold T k0 x1 x2 S) (fun q0 => q0.2.1 a b = S0.1 a b) := by
  unfold fX12_sold
  refine zwl_t (fun r1 => ?_)
  refine zwl_i ?_ ?_
  · exact (wI_X12_sold_b25  hS)
  · refine zwl_t (fun r4 => ?_)
    refine zwl_i ?_ ?_
    · exact (wI_X12_sold_b25  hS)
    · refine zwl_b (wI_X12_soldBy h0 h1 h2 h3 h4 h5 h6 hS) (fun r7 S9 e1 => ?_)
      exact (wI_X12_sold_b26  e1)
set_option maxHeartbeats 40000 in
set_option maxRecDepth 100000 in
theorem wI_X12_selling_b60 {T : zT} {k0 : Nat} {x1 : Int32} {x2 : Int32} {x3 : Int32} {x4 : Int32} {S S0 : zS} {a b : Nat}  (hS : S.1 a b = S0.1 a b) : zwl (fX12_selling_b60 T k0 x1 x2 x3 x4 S) (Sum.elim (fun q1 => q1.2.2.2.1 a b = S0.1 a b) (fun q1 => q1.2.1 a b = S0.1 a b)) := by
  unfold fX12_selling_b60
  refine zwl_v (fun u13 => ?_)
  exact zwl_r hS
set_option maxHeartbeats 40000 in
set_option maxRecDepth 100000 in
theorem wI_X12_selling_l21 {T : zT} {k0 : Nat} {x1 : Int32} {x2 : Int32} {x3 : Int32} {x4 : Int32} {S S0 : zS} {a b : Nat} (h0 : ¬ (a = k0 ∧ b = 54)) (h1 : ¬ (a = k0 ∧ b = 55)) (h2 : ¬ (a = k0 ∧ b = 56)) (h3 : ¬ (a = k0 ∧ b = 57)) (h4 : ¬ (a = k0 ∧ b = 58)) (h5 : ¬ (a = k0 ∧ b = 59)) (h6 : ¬ a = zr T k0 53) (hS : S.1 a b = S0.1 a b) : zwl (fX12_selling_l21 T k0 x1 x2 x3 x4 S) (Sum.elim (fun q1 => q1.2.2.2.1 a b = S0.1 a b) (fun q1 => q1.2.1 a b = S0.1 a b)) := by
  unfold fX12_selling_l21
  refine zwl_g ?_
  refine zwl_i ?_ ?_
  · exact zwl_r hS
  · refine zwl_b (wI_X12_soldBy h0 h1 h2 h3 h4 h5 h6 hS) (fun r9 S11 e1 => ?_)
    refine zwl_i ?_ ?_
    · exact (wI_X12_selling_b60  e1)
    · refine zwl_i ?_ ?_
      · exact (wI_X12_selling_b60  e1)
      · exact (wI_X12_selling_b60  e1)
set_option maxHeartbeats 40000 in
set_option maxRecDepth 100000 in
theorem wI_X12_selling {T : zT} {k0 : Nat} {x1 : Int32} {S S0 : zS} {a b : Nat} (h0 : ¬ (a = k0 ∧ b = 54)) (h1 : ¬ (a = k0 ∧ b = 55)) (h2 : ¬ (a = k0 ∧ b = 56)) (h3 : ¬ (a = k0 ∧ b = 57)) (h4 : ¬ (a = k0 ∧ b = 58)) (h5 : ¬ (a = k0 ∧ b = 59)) (h6 : ¬ a = zr T k0 53) (hS : S.1 a b = S0.1 a b) : zwl (fX12_selling T k0 x1 S) (fun q0 => q0.2.1 a b = S0.1 a b) := by
  unfold fX12_selling
  refine zwl_t (fun r1 => ?_)
  refine zwl_i ?_ ?_
  · exact zwl_r hS
  · refine zwl_b (wI_X12_asBest h0 h1 h2 h3 h4 h5 h6 hS) (fun r4 S6 e1 => ?_)
    refine zwl_b1 (zwl_lp (I := (fun q0 => q0.2.2.2.1 a b = S0.1 a b)) (Q := (fun q0 => q0.2.1 a b = S0.1 a b)) (fun a e4 => (wI_X12_selling_l21 h0 h1 h2 h3 h4 h5 h6 e4)) e1) (fun e15 e2 => ?_)
    exact zwl_r e2
set_option maxHeartbeats 40000 in
set_option maxRecDepth 100000 in
theorem wI_X12_ruled_b20 {T : zT} {S S0 : zS} {a b : Nat}  (hS : S.1 a b = S0.1 a b) : zwl (fX12_ruled_b20 T S) (fun q0 => q0.2.1 a b = S0.1 a b) := by
  unfold fX12_ruled_b20
  exact zwl_r hS
set_option maxHeartbeats 40000 in
set_option maxRecDepth 100000 in
theorem wI_X12_ruled_b102 {T : zT} {s0 : Int32} {S S0 : zS} {a b : Nat}  (hS : S.1 a b = S0.1 a b) : zwl (fX12_ruled_b102 T s0 S) (fun q0 => q0.2.1 a b = S0.1 a b) := by
  unfold fX12_ruled_b102
  exact zwl_r hS
set_option maxHeartbeats 40000 in
set_option maxRecDepth 100000 in
theorem wI_X12_ruled_b73 {T : zT} {s0 : Int32} {S S0 : zS} {a b : Nat}  (hS : S.1 a b = S0.1 a b) : zwl (fX12_ruled_b73 T s0 S) (fun q0 => q0.2.1 a b = S0.1 a b) := by
  unfold fX12_ruled_b73
  exact zwl_r hS
set_option maxHeartbeats 40000 in
set_option maxRecDepth 100000 in
theorem wI_X12_ruled_b61 {T : zT} {S S0 : zS} {a b : Nat}  (hS : S.1 a b = S0.1 a b) : zwl (fX12_ruled_b61 T S) (fun q0 => q0.2.1 a b = S0.1 a b) := by
  unfold fX12_ruled_b61
  exact (wI_X12_ruled_b73  hS)
set_option maxHeartbeats 40000 in
set_option maxRecDepth 100000 in
theorem wI_X12_ruled_b36 {T : zT} {k0 : Nat} {x1 : Int32} {x2 : Int32} {s0 : Int32} {S S0 : zS} {a b : Nat} (h0 : ¬ a = zr T k0 40) (h1 : ¬ a = zr T k0 41) (h2 : ¬ a = zr T k0 42) (h3 : ¬ a = zr T k0 43) (h4 : ¬ a = zr T k0 46) (h5 : ¬ (a = k0 ∧ b = 48)) (h6 : ¬ (a = k0 ∧ b = 47)) (h7 : ¬ (a = k0 ∧ b = 49)) (h8 : ¬ (a = k0 ∧ b = 50)) (h9 : ¬ (a = k0 ∧ b = 51)) (h10 : ¬ a = zr T k0 61) (hS : S.1 a b = S0.1 a b) : zwl (fX12_ruled_b36 T k0 x1 x2 s0 S) (fun q0 => q0.2.1 a b = S0.1 a b) := by
  unfold fX12_ruled_b36
  refine zwl_b (wI_X12_follows h0 h1 h2 h3 h4 h5 h6 h7 h8 h9 h10 hS) (fun r1 S10 e2 => ?_)
  refine zwl_i ?_ ?_
  · refine zwl_i ?_ ?_
    · exact (wI_X12_ruled_b61  e2)
    · refine zwl_i ?_ ?_
      · exact (wI_X12_ruled_b73  e2)
      · exact (wI_X12_ruled_b61  e2)
  · refine zwl_i ?_ ?_
    · exact (wI_X12_ruled_b102  e2)
    · refine zwl_i ?_ ?_
      · refine zwl_t (fun r14 => ?_)
        exact (wI_X12_ruled_b102  e2)
      · exact (wI_X12_ruled_b102  e2)
set_option maxHeartbeats 40000 in
set_option maxRecDepth 100000 in
theorem wI_X12_ruled {T : zT} {k0 : Nat} {x1 : Int32} {x2 : Int32} {S S0 : zS} {a b : Nat} (h0 : ¬ (a = k0 ∧ b = 54)) (h1 : ¬ (a = k0 ∧ b = 55)) (h2 : ¬ (a = k0 ∧ b = 56)) (h3 : ¬ (a = k0 ∧ b = 57)) (h4 : ¬ (a = k0 ∧ b = 58)) (h5 : ¬ (a = k0 ∧ b = 59)) (h6 : ¬ a = zr T k0 53) (h7 : ¬ a = zr T k0 40) (h8 : ¬ a = zr T k0 41) (h9 : ¬ a = zr T k0 42) (h10 : ¬ a = zr T k0 43) (h11 : ¬ a = zr T k0 46) (h12 : ¬ (a = k0 ∧ b = 48)) (h13 : ¬ (a = k0 ∧ b = 47)) (h14 : ¬ (a = k0 ∧ b = 49)) (h15 : ¬ (a = k0 ∧ b = 50)) (h16 : ¬ (a = k0 ∧ b = 51)) (h17 : ¬ a = zr T k0 61) (hS : S.1 a b = S0.1 a b) : zwl (fX12_ruled T k0 x1 x2 S) (fun q0 => q0.2.1 a b = S0.1 a b) := by
  unfold fX12_ruled
  refine zwl_t (fun r1 => ?_)
  refine zwl_i ?_ ?_
  · exact (wI_X12_ruled_b20  hS)
  · refine zwl_t (fun r4 => ?_)
    refine zwl_i ?_ ?_
    · exact (wI_X12_ruled_b20  hS)
    · refine zwl_i ?_ ?_
      · refine zwl_b (wI_X12_asBest h0 h1 h2 h3 h4 h5 h6 hS) (fun r18 S20 e1 => ?_)
        exact (wI_X12_ruled_b36 h7 h8 h9 h10 h11 h12 h13 h14 h15 h16 h17 e1)
      · exact (wI_X12_ruled_b36 h7 h8 h9 h10 h11 h12 h13 h14 h15 h16 h17 hS)
set_option maxHeartbeats 40000 in
set_option maxRecDepth 100000 in
theorem wI_X12_fact {T : zT} {k0 : Nat} {S S0 : zS} {a b : Nat} (h0 : ¬ (a = k0 ∧ b = 2)) (h1 : ¬ (a = k0 ∧ b = 3)) (h2 : ¬ (a = k0 ∧ b = 7)) (h3 : ¬ a = zr T k0 21) (h4 : ¬ (a = k0 ∧ b = 9)) (h5 : ¬ (a = k0 ∧ b = 8)) (h6 : ¬ a = zr T k0 12) (h7 : ¬ a = zr T k0 13) (h8 : ¬ (a = k0 ∧ b = 6)) (hS : S.1 a b = S0.1 a b) : zwl (fX12_fact T k0 S) (fun q0 => q0.2.1 a b = S0.1 a b) := by
  unfold fX12_fact
  refine zwl_b (wI_X12_blanks h0 hS) (fun r1 S3 e2 => ?_)
  refine zwl_t (fun r4 => ?_)
  refine zwl_i ?_ ?_
  · refine zwl_t (fun r7 => ?_)
    refine zwl_i ?_ ?_
    · refine zwl_b (wI_X12_opens h1 h2 h3 h4 e2) (fun r3 S15 e4 => ?_)
      refine zwl_sIf h0 e4 (fun S16 e5 => ?_)
      exact zwl_r e5
    · refine zwl_b (wI_X12_compared h0 h1 h5 h6 h7 h8 e2) (fun r6 S12 e7 => ?_)
      exact zwl_r e7
  · refine zwl_b (wI_X12_opens h1 h2 h3 h4 e2) (fun r8 S19 e9 => ?_)
    refine zwl_sIf h0 e9 (fun S20 e10 => ?_)
    exact zwl_r e10
set_option maxHeartbeats 40000 in
set_option maxRecDepth 100000 in
theorem wI_X12_hangs_b31 {T : zT} {s0 : Int32} {S S0 : zS} {a b : Nat}  (hS : S.1 a b = S0.1 a b) : zwl (fX12_hangs_b31 T s0 S) (fun q0 => q0.2.1 a b = S0.1 a b) := by
  unfold fX12_hangs_b31
  exact zwl_r hS
set_option maxHeartbeats 40000 in
set_option maxRecDepth 100000 in
theorem wI_X12_hangs {T : zT} {k0 : Nat} {x1 : Int32} {S S0 : zS} {a b : Nat} (h0 : ¬ (a = k0 ∧ b = 54)) (h1 : ¬ (a = k0 ∧ b = 55)) (h2 : ¬ (a = k0 ∧ b = 56)) (h3 : ¬ (a = k0 ∧ b = 57)) (h4 : ¬ (a = k0 ∧ b = 58)) (h5 : ¬ (a = k0 ∧ b = 59)) (h6 : ¬ a = zr T k0 53) (hS : S.1 a b = S0.1 a b) : zwl (fX12_hangs T k0 x1 S) (fun q0 => q0.2.1 a b = S0.1 a b) := by
  unfold fX12_hangs
  refine zwl_t (fun r1 => ?_)
  refine zwl_i ?_ ?_
  · exact zwl_r hS
  · refine zwl_b (wI_X12_asBest h0 h1 h2 h3 h4 h5 h6 hS) (fun r4 S6 e1 => ?_)
    refine zwl_i ?_ ?_
    · exact (wI_X12_hangs_b31  e1)
    · refine zwl_b (wI_X12_hangsOn h0 h1 h2 h3 h4 h5 h6 e1) (fun r8 S10 e2 => ?_)
      exact (wI_X12_hangs_b31  e2)
set_option maxHeartbeats 40000 in
set_option maxRecDepth 100000 in
theorem wI_X12_key_b85 {T : zT} {k0 : Nat} {x1 : Int32} {x2 : Int32} {x3 : Int32} {x4 : Int32} {S S0 : zS} {a b : Nat}  (hS : S.1 a b = S0.1 a b) : zwl (fX12_key_b85 T k0 x1 x2 x3 x4 S) (Sum.elim (fun q1 => q1.2.2.2.1 a b = S0.1 a b) (fun q1 => q1.2.1 a b = S0.1 a b)) := by
  unfold fX12_key_b85
  refine zwl_v (fun u8 => ?_)
  exact zwl_r hS
set_option maxHeartbeats 40000 in
set_option maxRecDepth 100000 in
theorem wI_X12_key_b79 {T : zT} {k0 : Nat} {x1 : Int32} {x4 : Int32} {x5 : Int32} {S S0 : zS} {a b : Nat}  (hS : S.1 a b = S0.1 a b) : zwl (fX12_key_b79 T k0 x1 x4 x5 S) (Sum.elim (fun q1 => q1.2.2.2.1 a b = S0.1 a b) (fun q1 => q1.2.1 a b = S0.1 a b)) := by
  unfold fX12_key_b79
  exact (wI_X12_key_b85  hS)
set_option maxHeartbeats 40000 in
set_option maxRecDepth 100000 in
theorem wI_X12_key_l13 {T : zT} {k0 : Nat} {x1 : Int32} {x2 : Int32} {x3 : Int32} {x4 : Int32} {S S0 : zS} {a b : Nat} (h0 : ¬ (a = k0 ∧ b = 54)) (h1 : ¬ (a = k0 ∧ b = 55)) (h2 : ¬ (a = k0 ∧ b = 56)) (h3 : ¬ (a = k0 ∧ b = 57)) (h4 : ¬ (a = k0 ∧ b = 58)) (h5 : ¬ (a = k0 ∧ b = 59)) (h6 : ¬ a = zr T k0 53) (hS : S.1 a b = S0.1 a b) : zwl (fX12_key_l13 T k0 x1 x2 x3 x4 S) (Sum.elim (fun q1 => q1.2.2.2.1 a b = S0.1 a b) (fun q1 => q1.2.1 a b = S0.1 a b)) := by
  unfold fX12_key_l13
  refine zwl_i ?_ ?_
  · exact zwl_r hS
  · refine zwl_i ?_ ?_
    · exact zwl_r hS
    · refine zwl_g ?_
      refine zwl_i ?_ ?_
      · refine zwl_b (wI_X12_hangsOn h0 h1 h2 h3 h4 h5 h6 hS) (fun r9 S11 e1 => ?_)
        refine zwl_i ?_ ?_
        · exact (wI_X12_key_b79  e1)
        · refine zwl_i ?_ ?_
          · exact (wI_X12_key_b79  e1)
          · refine zwl_i ?_ ?_
            · refine zwl_g ?_
              refine zwl_g ?_
              refine zwl_i ?_ ?_
              · exact (wI_X12_key_b85  e1)
              · exact (wI_X12_key_b79  e1)
            · exact (wI_X12_key_b85  e1)
      · exact (wI_X12_key_b85  hS)
set_option maxHeartbeats 40000 in
set_option maxRecDepth 100000 in
theorem wI_X12_key_b91 {T : zT} {x2 : Int32} {S S0 : zS} {a b : Nat}  (hS : S.1 a b = S0.1 a b) : zwl (fX12_key_b91 T x2 S) (fun q0 => q0.2.1 a b = S0.1 a b) := by
  unfold fX12_key_b91
  exact zwl_r hS
set_option maxHeartbeats 40000 in
set_option maxRecDepth 100000 in
theorem wI_X12_key {T : zT} {k0 : Nat} {S S0 : zS} {a b : Nat} (h0 : ¬ (a = k0 ∧ b = 54)) (h1 : ¬ (a = k0 ∧ b = 55)) (h2 : ¬ (a = k0 ∧ b = 56)) (h3 : ¬ (a = k0 ∧ b = 57)) (h4 : ¬ (a = k0 ∧ b = 58)) (h5 : ¬ (a = k0 ∧ b = 59)) (h6 : ¬ a = zr T k0 53) (hS : S.1 a b = S0.1 a b) : zwl (fX12_key T k0 S) (fun q0 => q0.2.1 a b = S0.1 a b) := by
  unfold fX12_key
  refine zwl_b (wI_X12_asBest h0 h1 h2 h3 h4 h5 h6 hS) (fun r1 S3 e1 => ?_)
  refine zwl_b1 (zwl_lp (I := (fun q0 => q0.2.2.2.1 a b = S0.1 a b)) (Q := (fun q0 => q0.2.1 a b = S0.1 a b)) (fun a e4 => (wI_X12_key_l13 h0 h1 h2 h3 h4 h5 h6 e4)) e1) (fun e18 e2 => ?_)
  exact (wI_X12_key_b91  e2)
set_option maxHeartbeats 40000 in
set_option maxRecDepth 100000 in
theorem wI_X12_test_b199 {T : zT} {k0 : Nat} {x1 : Int32} {x2 : Int32} {S S0 : zS} {a b : Nat}  (hS : S.1 a b = S0.1 a b) : zwl (fX12_test_b199 T k0 x1 x2 S) (Sum.elim (fun q1 => q1.2.2.1 a b = S0.1 a b) (fun q1 => q1.1 a b = S0.1 a b)) := by
  unfold fX12_test_b199
  exact zwl_r hS
set_option maxHeartbeats 40000 in
set_option maxRecDepth 100000 in
theorem wI_X12_test_b122 {T : zT} {k0 : Nat} {x2 : Int32} {s0 : Int32} {s1 : Int32} {s2 : Nat} {S S0 : zS} {a b : Nat} (h0 : ¬ (a = s2 ∧ b = 2)) (hS : S.1 a b = S0.1 a b) : zwl (fX12_test_b122 T k0 x2 s0 s1 s2 S) (Sum.elim (fun q1 => q1.2.2.1 a b = S0.1 a b) (fun q1 => q1.1 a b = S0.1 a b)) := by
  unfold fX12_test_b122
  refine zwl_sIf h0 hS (fun S25 e1 => ?_)
  exact (wI_X12_test_b199  e1)
set_option maxHeartbeats 40000 in
set_option maxRecDepth 100000 in
theorem wI_X12_test_b105 {T : zT} {k0 : Nat} {x2 : Int32} {x3 : Int32} {s0 : Int32} {s1 : Nat} {S S0 : zS} {a b : Nat} (h0 : ¬ (a = s1 ∧ b = 3)) (h1 : ¬ (a = s1 ∧ b = 7)) (h2 : ¬ a = zr T s1 21) (h3 : ¬ (a = s1 ∧ b = 9)) (h4 : ¬ (a = k0 ∧ b = 2)) (hS : S.1 a b = S0.1 a b) : zwl (fX12_test_b105 T k0 x2 x3 s0 s1 S) (Sum.elim (fun q1 => q1.2.2.1 a b = S0.1 a b) (fun q1 => q1.1 a b = S0.1 a b)) := by
  unfold fX12_test_b105
  refine zwl_b (wI_X12_opens h0 h1 h2 h3 hS) (fun r1 S23 e2 => ?_)
  refine zwl_i ?_ ?_
  · exact (wI_X12_test_b122 h4 e2)
  · exact (wI_X12_test_b122 h4 e2)
set_option maxHeartbeats 40000 in
set_option maxRecDepth 100000 in
theorem wI_X12_test_b93 {T : zT} {k0 : Nat} {x2 : Int32} {x3 : Int32} {S S0 : zS} {a b : Nat} (h0 : ¬ (a = k0 ∧ b = 3)) (h1 : ¬ (a = k0 ∧ b = 7)) (h2 : ¬ a = zr T k0 21) (h3 : ¬ (a = k0 ∧ b = 9)) (h4 : ¬ (a = k0 ∧ b = 2)) (hS : S.1 a b = S0.1 a b) : zwl (fX12_test_b93 T k0 x2 x3 S) (Sum.elim (fun q1 => q1.2.2.1 a b = S0.1 a b) (fun q1 => q1.1 a b = S0.1 a b)) := by
  unfold fX12_test_b93
  refine zwl_i ?_ ?_
  · exact (wI_X12_test_b105 h0 h1 h2 h3 h4 hS)
  · exact (wI_X12_test_b105 h0 h1 h2 h3 h4 hS)
set_option maxHeartbeats 40000 in
set_option maxRecDepth 100000 in
theorem wI_X12_test_b82 {T : zT} {k0 : Nat} {x2 : Int32} {x3 : Int32} {x4 : Int32} {S S0 : zS} {a b : Nat} (h0 : ¬ (a = k0 ∧ b = 3)) (h1 : ¬ (a = k0 ∧ b = 7)) (h2 : ¬ a = zr T k0 21) (h3 : ¬ (a = k0 ∧ b = 9)) (h4 : ¬ (a = k0 ∧ b = 2)) (h5 : ¬ a = zr T k0 12) (h6 : ¬ a = zr T k0 13) (h7 : ¬ (a = k0 ∧ b = 6)) (hS : S.1 a b = S0.1 a b) : zwl (fX12_test_b82 T k0 x2 x3 x4 S) (Sum.elim (fun q1 => q1.2.2.1 a b = S0.1 a b) (fun q1 => q1.1 a b = S0.1 a b)) := by
  unfold fX12_test_b82
  refine zwl_i ?_ ?_
  · exact (wI_X12_test_b93 h0 h1 h2 h3 h4 hS)
  · refine zwl_b (wI_X12_answers h5 h6 h7 h3 h1 hS) (fun r1 S28 e2 => ?_)
    exact (wI_X12_test_b93 h0 h1 h2 h3 h4 e2)
set_option maxHeartbeats 40000 in
set_option maxRecDepth 100000 in
theorem wI_X12_test_b164 {T : zT} {k0 : Nat} {x1 : Int32} {x2 : Int32} {S S0 : zS} {a b : Nat} (h0 : ¬ (a = k0 ∧ b = 2)) (h1 : ¬ (a = k0 ∧ b = 9)) (h2 : ¬ (a = k0 ∧ b = 7)) (hS : S.1 a b = S0.1 a b) : zwl (fX12_test_b164 T k0 x1 x2 S) (Sum.elim (fun q1 => q1.2.2.1 a b = S0.1 a b) (fun q1 => q1.1 a b = S0.1 a b)) := by
  unfold fX12_test_b164
  refine zwl_sIf h0 hS (fun S39 e1 => ?_)
  refine zwl_sIf h1 e1 (fun S40 e2 => ?_)
  refine zwl_sIf h2 e2 (fun S41 e3 => ?_)
  exact (wI_X12_test_b199  e3)
set_option maxHeartbeats 40000 in
set_option maxRecDepth 100000 in
theorem wI_X12_test_b36 {T : zT} {k0 : Nat} {x2 : Int32} {s0 : Int32} {S S0 : zS} {a b : Nat}  (hS : S.1 a b = S0.1 a b) : zwl (fX12_test_b36 T k0 x2 s0 S) (Sum.elim (fun q1 => q1.2.2.1 a b = S0.1 a b) (fun q1 => q1.1 a b = S0.1 a b)) := by
  unfold fX12_test_b36
  exact zwl_r hS
set_option maxHeartbeats 40000 in
set_option maxRecDepth 100000 in
theorem wI_X12_test_l9 {T : zT} {k0 : Nat} {x1 : Int32} {x2 : Int32} {S S0 : zS} {a b : Nat} (h0 : ¬ a = zr T k0 12) (h1 : ¬ a = zr T k0 13) (h2 : ¬ (a = k0 ∧ b = 6)) (h3 : ¬ (a = k0 ∧ b = 9)) (h4 : ¬ (a = k0 ∧ b = 7)) (h5 : ¬ (a = k0 ∧ b = 2)) (h6 : ¬ (a = k0 ∧ b = 3)) (h7 : ¬ a = zr T k0 21) (h8 : ¬ (a = k0 ∧ b = 8)) (hS : S.1 a b = S0.1 a b) : zwl (fX12_test_l9 T k0 x1 x2 S) (Sum.elim (fun q1 => q1.2.2.1 a b = S0.1 a b) (fun q1 => q1.1 a b = S0.1 a b)) := by
  unfold fX12_test_l9
  refine zwl_i ?_ ?_
  · exact zwl_r hS
  · refine zwl_i ?_ ?_
    · refine zwl_i ?_ ?_
      · refine zwl_b (wI_X12_answers h0 h1 h2 h3 h4 hS) (fun r1 S7 e2 => ?_)
        refine zwl_b (wI_X12_blanks h5 e2) (fun r3 S10 e4 => ?_)
        refine zwl_t (fun r11 => ?_)
        refine zwl_t (fun r13 => ?_)
        refine zwl_b (wI_X12_answers h0 h1 h2 h3 h4 e4) (fun r5 S17 e6 => ?_)
        refine zwl_i ?_ ?_
        · refine zwl_i ?_ ?_
          · refine zwl_b (wI_X12_answers h0 h1 h2 h3 h4 e6) (fun r7 S32 e8 => ?_)
            refine zwl_t (fun r33 => ?_)
            refine zwl_i ?_ ?_
            · refine zwl_t (fun r36 => ?_)
              refine zwl_i ?_ ?_
              · exact (wI_X12_test_b164 h5 h3 h4 e8)
              · refine zwl_b (wI_X12_fails h6 e8) (fun r9 S44 e10 => ?_)
                exact (wI_X12_test_b164 h5 h3 h4 e10)
            · exact (wI_X12_test_b199  e8)
          · exact (wI_X12_test_b82 h6 h4 h7 h3 h5 h0 h1 h2 e6)
        · exact (wI_X12_test_b82 h6 h4 h7 h3 h5 h0 h1 h2 e6)
      · refine zwl_b (wI_X12_fact h5 h6 h4 h7 h3 h8 h0 h1 h2 hS) (fun r45 S47 e11 => ?_)
        refine zwl_i ?_ ?_
        · exact (wI_X12_test_b36  e11)
        · exact (wI_X12_test_b36  e11)
    · exact zwl_r hS
set_option maxHeartbeats 40000 in
set_option maxRecDepth 100000 in
theorem wI_X12_test_b202 {T : zT} {S S0 : zS} {a b : Nat}  (hS : S.1 a b = S0.1 a b) : zwl (fX12_test_b202 T S) (fun q0 => q0.2.1 a b = S0.1 a b) := by
  unfold fX12_test_b202
  exact zwl_r hS
set_option maxHeartbeats 40000 in
set_option maxRecDepth 100000 in
theorem wI_X12_test {T : zT} {k0 : Nat} {S S0 : zS} {a b : Nat} (h0 : ¬ (a = k0 ∧ b = 9)) (h1 : ¬ a = zr T k0 12) (h2 : ¬ a = zr T k0 13) (h3 : ¬ (a = k0 ∧ b = 6)) (h4 : ¬ (a = k0 ∧ b = 7)) (h5 : ¬ (a = k0 ∧ b = 2)) (h6 : ¬ (a = k0 ∧ b = 3)) (h7 : ¬ a = zr T k0 21) (h8 : ¬ (a = k0 ∧ b = 8)) (hS : S.1 a b = S0.1 a b) : zwl (fX12_test T k0 S) (fun q0 => q0.2.1 a b = S0.1 a b) := by
  unfold fX12_test
  refine zwl_sIf h0 hS (fun S1 e1 => ?_)
  refine zwl_b1 (zwl_lp (I := (fun q0 => q0.2.2.1 a b = S0.1 a b)) (Q := (fun q0 => q0.1 a b = S0.1 a b)) (fun a e4 => (wI_X12_test_l9 h1 h2 h3 h0 h4 h5 h6 h7 h8 e4)) e1) (fun e49 e2 => ?_)
  exact (wI_X12_test_b202  e2)
set_option maxHeartbeats 40000 in
set_option maxRecDepth 100000 in
theorem wI_X12_ifTest_b21 {T : zT} {S S0 : zS} {a b : Nat}  (hS : S.1 a b = S0.1 a b) : zwl (fX12_ifTest_b21 T S) (fun q0 => q0.2.1 a b = S0.1 a b) := by
  unfold fX12_ifTest_b21
  exact zwl_r hS
set_option maxHeartbeats 40000 in
set_option maxRecDepth 100000 in
theorem wI_X12_ifTest {T : zT} {k0 : Nat} {S S0 : zS} {a b : Nat} (h0 : ¬ (a = k0 ∧ b = 2)) (h1 : ¬ (a = k0 ∧ b = 9)) (h2 : ¬ a = zr T k0 12) (h3 : ¬ a = zr T k0 13) (h4 : ¬ (a = k0 ∧ b = 6)) (h5 : ¬ (a = k0 ∧ b = 7)) (h6 : ¬ (a = k0 ∧ b = 3)) (h7 : ¬ a = zr T k0 21) (h8 : ¬ (a = k0 ∧ b = 8)) (hS : S.1 a b = S0.1 a b) : zwl (fX12_ifTest T k0 S) (fun q0 => q0.2.1 a b = S0.1 a b) := by
  unfold fX12_ifTest
  refine zwl_i ?_ ?_
  · refine zwl_b (wI_X12_takes h0 hS) (fun r2 S4 e1 => ?_)
    refine zwl_i ?_ ?_
    · exact (wI_X12_ifTest_b21  e1)
    · refine zwl_b (wI_X12_test h1 h2 h3 h4 h5 h0 h6 h7 h8 e1) (fun r2 S8 e3 => ?_)
      exact (wI_X12_ifTest_b21  e3)
  · exact (wI_X12_ifTest_b21  hS)
set_option maxHeartbeats 40000 in
set_option maxRecDepth 100000 in
theorem wI_X12_setClause_b63 {T : zT} {k0 : Nat} {x1 : Int32} {x2 : Int32} {x3 : Int32} {S S0 : zS} {a b : Nat} (h0 : ¬ (a = k0 ∧ b = 2)) (hS : S.1 a b = S0.1 a b) : zwl (fX12_setClause_b63 T k0 x1 x2 x3 S) (Sum.elim (fun q1 => q1.2.2.1 a b = S0.1 a b) (fun q1 => q1.2.1 a b = S0.1 a b)) := by
  unfold fX12_setClause_b63
  refine zwl_v (fun u12 => ?_)
  refine zwl_sIf h0 hS (fun S13 e1 => ?_)
  refine zwl_b (wI_X12_letter h0 e1) (fun r14 S16 e2 => ?_)
  exact zwl_r e2
set_option maxHeartbeats 40000 in
set_option maxRecDepth 100000 in
theorem wI_X12_setClause_b54 {T : zT} {k0 : Nat} {x1 : Int32} {x2 : Int32} {x3 : Int32} {S S0 : zS} {a b : Nat} (h0 : ¬ (a = k0 ∧ b = 3)) (h1 : ¬ (a = k0 ∧ b = 2)) (hS : S.1 a b = S0.1 a b) : zwl (fX12_setClause_b54 T k0 x1 x2 x3 S) (Sum.elim (fun q1 => q1.2.2.1 a b = S0.1 a b) (fun q1 => q1.2.1 a b = S0.1 a b)) := by
  unfold fX12_setClause_b54
  refine zwl_b (wI_X12_fails h0 hS) (fun r1 S11 e2 => ?_)
  exact (wI_X12_setClause_b63 h1 e2)
set_option maxHeartbeats 40000 in
set_option maxRecDepth 100000 in
theorem wI_X12_setClause_l21 {T : zT} {k0 : Nat} {x1 : Int32} {x2 : Int32} {x3 : Int32} {S S0 : zS} {a b : Nat} (h0 : ¬ (a = k0 ∧ b = 3)) (h1 : ¬ (a = k0 ∧ b = 2)) (hS : S.1 a b = S0.1 a b) : zwl (fX12_setClause_l21 T k0 x1 x2 x3 S) (Sum.elim (fun q1 => q1.2.2.1 a b = S0.1 a b) (fun q1 => q1.2.1 a b = S0.1 a b)) := by
  unfold fX12_setClause_l21
  refine zwl_i ?_ ?_
  · exact zwl_r hS
  · refine zwl_i ?_ ?_
    · refine zwl_g ?_
      refine zwl_i ?_ ?_
      · exact (wI_X12_setClause_b54 h0 h1 hS)
      · refine zwl_i ?_ ?_
        · exact (wI_X12_setClause_b54 h0 h1 hS)
        · exact (wI_X12_setClause_b63 h1 hS)
    · exact zwl_r hS
set_option maxHeartbeats 40000 in
set_option maxRecDepth 100000 in
theorem wI_X12_setClause_b113 {T : zT} {k0 : Nat} {x1 : Int32} {x2 : Int32} {S S0 : zS} {a b : Nat} (h0 : ¬ a = zr T k0 16) (h1 : ¬ (a = k0 ∧ b = 2)) (h2 : ¬ (a = k0 ∧ b = 3)) (h3 : ¬ a = zr T k0 17) (h4 : ¬ a = zr T k0 19) (h5 : ¬ (a = k0 ∧ b = 9)) (h6 : ¬ a = zr T k0 12) (h7 : ¬ a = zr T k0 13) (h8 : ¬ (a = k0 ∧ b = 6)) (h9 : ¬ (a = k0 ∧ b = 7)) (h10 : ¬ a = zr T k0 21) (h11 : ¬ (a = k0 ∧ b = 8)) (hS : S.1 a b = S0.1 a b) : zwl (fX12_setClause_b113 T k0 x1 x2 S) (fun q0 => q0.2.1 a b = S0.1 a b) := by
  unfold fX12_setClause_b113
  refine zwl_g ?_
  refine zwl_sIa h0 hS (fun S21 e1 => ?_)
  refine zwl_b (wI_X12_amount h1 h2 e1) (fun r22 S24 e2 => ?_)
  refine zwl_g ?_
  refine zwl_sIa h3 e2 (fun S26 e3 => ?_)
  refine zwl_g ?_
  refine zwl_sIa h4 e3 (fun S28 e4 => ?_)
  refine zwl_b (wI_X12_ifTest h1 h5 h6 h7 h8 h9 h2 h10 h11 e4) (fun r5 S31 e6 => ?_)
  exact zwl_r e6
set_option maxHeartbeats 40000 in
set_option maxRecDepth 100000 in
theorem wI_X12_setClause_b87 {T : zT} {k0 : Nat} {x1 : Int32} {x2 : Int32} {S S0 : zS} {a b : Nat} (h0 : ¬ (a = k0 ∧ b = 2)) (h1 : ¬ (a = k0 ∧ b = 3)) (h2 : ¬ a = zr T k0 16) (h3 : ¬ a = zr T k0 17) (h4 : ¬ a = zr T k0 19) (h5 : ¬ (a = k0 ∧ b = 9)) (h6 : ¬ a = zr T k0 12) (h7 : ¬ a = zr T k0 13) (h8 : ¬ (a = k0 ∧ b = 6)) (h9 : ¬ (a = k0 ∧ b = 7)) (h10 : ¬ a = zr T k0 21) (h11 : ¬ (a = k0 ∧ b = 8)) (hS : S.1 a b = S0.1 a b) : zwl (fX12_setClause_b87 T k0 x1 x2 S) (fun q0 => q0.2.1 a b = S0.1 a b) := by
  unfold fX12_setClause_b87
  refine zwl_i ?_ ?_
  · refine zwl_b (wI_X12_takes h0 hS) (fun r32 S34 e1 => ?_)
    refine zwl_i ?_ ?_
    · refine zwl_b (wI_X12_fails h1 e1) (fun r2 S38 e3 => ?_)
      exact (wI_X12_setClause_b113 h2 h0 h1 h3 h4 h5 h6 h7 h8 h9 h10 h11 e3)
    · exact (wI_X12_setClause_b113 h2 h0 h1 h3 h4 h5 h6 h7 h8 h9 h10 h11 e1)
  · exact (wI_X12_setClause_b113 h2 h0 h1 h3 h4 h5 h6 h7 h8 h9 h10 h11 hS)
set_option maxHeartbeats 40000 in
set_option maxRecDepth 100000 in
theorem wI_X12_setClause_e21 {T : zT} {k0 : Nat} {x1 : Int32} {x2 : Int32} {x3 : Int32} {S S0 : zS} {a b : Nat} (h0 : ¬ (a = k0 ∧ b = 3)) (h1 : ¬ (a = k0 ∧ b = 2)) (h2 : ¬ a = zr T k0 16) (h3 : ¬ a = zr T k0 17) (h4 : ¬ a = zr T k0 19) (h5 : ¬ (a = k0 ∧ b = 9)) (h6 : ¬ a = zr T k0 12) (h7 : ¬ a = zr T k0 13) (h8 : ¬ (a = k0 ∧ b = 6)) (h9 : ¬ (a = k0 ∧ b = 7)) (h10 : ¬ a = zr T k0 21) (h11 : ¬ (a = k0 ∧ b = 8)) (hS : S.1 a b = S0.1 a b) : zwl (fX12_setClause_e21 T k0 x1 x2 x3 S) (fun q0 => q0.2.1 a b = S0.1 a b) := by
  unfold fX12_setClause_e21
  refine zwl_b1 (zwl_lp (I := (fun q0 => q0.2.2.1 a b = S0.1 a b)) (Q := (fun q0 => q0.2.1 a b = S0.1 a b)) (fun a e3 => (wI_X12_setClause_l21 h0 h1 e3)) hS) (fun e18 e1 => ?_)
  exact (wI_X12_setClause_b87 h1 h0 h2 h3 h4 h5 h6 h7 h8 h9 h10 h11 e1)
set_option maxHeartbeats 40000 in
set_option maxRecDepth 100000 in
theorem wI_X12_setClause {T : zT} {k0 : Nat} {x1 : Int32} {S S0 : zS} {a b : Nat} (h0 : ¬ (a = k0 ∧ b = 2)) (h1 : ¬ (a = k0 ∧ b = 3)) (h2 : ¬ a = zr T k0 16) (h3 : ¬ a = zr T k0 17) (h4 : ¬ a = zr T k0 19) (h5 : ¬ (a = k0 ∧ b = 9)) (h6 : ¬ a = zr T k0 12) (h7 : ¬ a = zr T k0 13) (h8 : ¬ (a = k0 ∧ b = 6)) (h9 : ¬ (a = k0 ∧ b = 7)) (h10 : ¬ a = zr T k0 21) (h11 : ¬ (a = k0 ∧ b = 8)) (hS : S.1 a b = S0.1 a b) : zwl (fX12_setClause T k0 x1 S) (fun q0 => q0.2.1 a b = S0.1 a b) := by
  unfold fX12_setClause
  refine zwl_b (wI_X12_letter h0 hS) (fun r1 S3 e1 => ?_)
  refine zwl_i ?_ ?_
  · refine zwl_b (wI_X12_fails h1 e1) (fun r2 S43 e3 => ?_)
    exact (wI_X12_setClause_e21 h1 h0 h2 h3 h4 h5 h6 h7 h8 h9 h10 h11 e3)
  · exact (wI_X12_setClause_e21 h1 h0 h2 h3 h4 h5 h6 h7 h8 h9 h10 h11 e1)
set_option maxHeartbeats 40000 in
set_option maxRecDepth 100000 in
theorem wI_X12_ruleClause_b71 {T : zT} {k0 : Nat} {x2 : Int32} {S S0 : zS} {a b : Nat} (h0 : ¬ (a = k0 ∧ b = 3)) (hS : S.1 a b = S0.1 a b) : zwl (fX12_ruleClause_b71 T k0 x2 S) (fun q0 => q0.2.1 a b = S0.1 a b) := by
  unfold fX12_ruleClause_b71
  refine zwl_b (wI_X12_fails h0 hS) (fun r1 S15 e2 => ?_)
  exact zwl_r e2
set_option maxHeartbeats 40000 in
set_option maxRecDepth 100000 in
theorem wI_X12_ruleClause_b164 {T : zT} {k0 : Nat} {x4 : Int32} {S S0 : zS} {a b : Nat} (h0 : ¬ a = zr T k0 20) (hS : S.1 a b = S0.1 a b) : zwl (fX12_ruleClause_b164 T k0 x4 S) (fun q0 => q0.2.1 a b = S0.1 a b) := by
  unfold fX12_ruleClause_b164
  refine zwl_g ?_
  refine zwl_sIa h0 hS (fun S31 e1 => ?_)
  exact zwl_r e1
set_option maxHeartbeats 40000 in
set_option maxRecDepth 100000 in
theorem wI_X12_ruleClause_b145 {T : zT} {k0 : Nat} {x3 : Int32} {x4 : Int32} {S S0 : zS} {a b : Nat} (h0 : ¬ a = zr T k0 19) (h1 : ¬ (a = k0 ∧ b = 2)) (h2 : ¬ (a = k0 ∧ b = 9)) (h3 : ¬ a = zr T k0 12) (h4 : ¬ a = zr T k0 13) (h5 : ¬ (a = k0 ∧ b = 6)) (h6 : ¬ (a = k0 ∧ b = 7)) (h7 : ¬ (a = k0 ∧ b = 3)) (h8 : ¬ a = zr T k0 21) (h9 : ¬ (a = k0 ∧ b = 8)) (h10 : ¬ a = zr T k0 20) (hS : S.1 a b = S0.1 a b) : zwl (fX12_ruleClause_b145 T k0 x3 x4 S) (fun q0 => q0.2.1 a b = S0.1 a b) := by
  unfold fX12_ruleClause_b145
  refine zwl_g ?_
  refine zwl_sIa h0 hS (fun S28 e1 => ?_)
  refine zwl_i ?_ ?_
  · refine zwl_b (wI_X12_ifTest h1 h2 h3 h4 h5 h6 h7 h8 h9 e1) (fun r2 S34 e3 => ?_)
    exact (wI_X12_ruleClause_b164 h10 e3)
  · exact (wI_X12_ruleClause_b164 h10 e1)
set_option maxHeartbeats 40000 in
set_option maxRecDepth 100000 in
theorem wI_X12_ruleClause_b78 {T : zT} {k0 : Nat} {x1 : Int32} {x3 : Int32} {S S0 : zS} {a b : Nat} (h0 : ¬ (a = k0 ∧ b = 2)) (h1 : ¬ a = zr T k0 15) (h2 : ¬ a = zr T k0 18) (h3 : ¬ (a = k0 ∧ b = 3)) (h4 : ¬ a = zr T k0 17) (h5 : ¬ a = zr T k0 19) (h6 : ¬ (a = k0 ∧ b = 9)) (h7 : ¬ a = zr T k0 12) (h8 : ¬ a = zr T k0 13) (h9 : ¬ (a = k0 ∧ b = 6)) (h10 : ¬ (a = k0 ∧ b = 7)) (h11 : ¬ a = zr T k0 21) (h12 : ¬ (a = k0 ∧ b = 8)) (h13 : ¬ a = zr T k0 20) (hS : S.1 a b = S0.1 a b) : zwl (fX12_ruleClause_b78 T k0 x1 x3 S) (fun q0 => q0.2.1 a b = S0.1 a b) := by
  unfold fX12_ruleClause_b78
  refine zwl_sIf h0 hS (fun S17 e1 => ?_)
  refine zwl_v (fun u18 => ?_)
  refine zwl_g ?_
  refine zwl_sIa h1 e1 (fun S20 e2 => ?_)
  refine zwl_g ?_
  refine zwl_sIa h2 e2 (fun S22 e3 => ?_)
  refine zwl_i ?_ ?_
  · refine zwl_b (wI_X12_amount h0 h3 e3) (fun r35 S37 e4 => ?_)
    refine zwl_g ?_
    refine zwl_sIa h4 e4 (fun S39 e5 => ?_)
    exact (wI_X12_ruleClause_b145 h5 h0 h6 h7 h8 h9 h10 h3 h11 h12 h13 e5)
  · refine zwl_b (wI_X12_sum h0 h3 h12 h7 h8 h9 e3) (fun r6 S26 e7 => ?_)
    exact (wI_X12_ruleClause_b145 h5 h0 h6 h7 h8 h9 h10 h3 h11 h12 h13 e7)
set_option maxHeartbeats 40000 in
set_option maxRecDepth 100000 in
theorem wI_X12_ruleClause_b38 {T : zT} {k0 : Nat} {x1 : Int32} {x2 : Int32} {s0 : Int32} {S S0 : zS} {a b : Nat} (h0 : ¬ (a = k0 ∧ b = 3)) (h1 : ¬ (a = k0 ∧ b = 2)) (h2 : ¬ a = zr T k0 15) (h3 : ¬ a = zr T k0 18) (h4 : ¬ a = zr T k0 17) (h5 : ¬ a = zr T k0 19) (h6 : ¬ (a = k0 ∧ b = 9)) (h7 : ¬ a = zr T k0 12) (h8 : ¬ a = zr T k0 13) (h9 : ¬ (a = k0 ∧ b = 6)) (h10 : ¬ (a = k0 ∧ b = 7)) (h11 : ¬ a = zr T k0 21) (h12 : ¬ (a = k0 ∧ b = 8)) (h13 : ¬ a = zr T k0 20) (hS : S.1 a b = S0.1 a b) : zwl (fX12_ruleClause_b38 T k0 x1 x2 s0 S) (fun q0 => q0.2.1 a b = S0.1 a b) := by
  unfold fX12_ruleClause_b38
  refine zwl_i ?_ ?_
  · refine zwl_b (wI_X12_fails h0 hS) (fun r1 S45 e2 => ?_)
    exact zwl_r e2
  · refine zwl_i ?_ ?_
    · exact (wI_X12_ruleClause_b71 h0 hS)
    · refine zwl_i ?_ ?_
      · refine zwl_t (fun r40 => ?_)
        refine zwl_i ?_ ?_
        · exact (wI_X12_ruleClause_b78 h1 h2 h3 h0 h4 h5 h6 h7 h8 h9 h10 h11 h12 h13 hS)
        · exact (wI_X12_ruleClause_b71 h0 hS)
      · exact (wI_X12_ruleClause_b78 h1 h2 h3 h0 h4 h5 h6 h7 h8 h9 h10 h11 h12 h13 hS)
set_option maxHeartbeats 40000 in
set_option maxRecDepth 100000 in
theorem wI_X12_ruleClause {T : zT} {k0 : Nat} {x1 : Int32} {S S0 : zS} {a b : Nat} (h0 : ¬ (a = k0 ∧ b = 2)) (h1 : ¬ (a = k0 ∧ b = 3)) (h2 : ¬ a = zr T k0 15) (h3 : ¬ a = zr T k0 18) (h4 : ¬ a = zr T k0 17) (h5 : ¬ a = zr T k0 19) (h6 : ¬ (a = k0 ∧ b = 9)) (h7 : ¬ a = zr T k0 12) (h8 : ¬ a = zr T k0 13) (h9 : ¬ (a = k0 ∧ b = 6)) (h10 : ¬ (a = k0 ∧ b = 7)) (h11 : ¬ a = zr T k0 21) (h12 : ¬ (a = k0 ∧ b = 8)) (h13 : ¬ a = zr T k0 20) (hS : S.1 a b = S0.1 a b) : zwl (fX12_ruleClause T k0 x1 S) (fun q0 => q0.2.1 a b = S0.1 a b) := by
  unfold fX12_ruleClause
  refine zwl_b (wI_X12_blanks h0 hS) (fun r1 S3 e2 => ?_)
  refine zwl_v (fun u4 => ?_)
  refine zwl_t (fun r5 => ?_)
  refine zwl_i ?_ ?_
  · refine zwl_t (fun r8 => ?_)
    refine zwl_i ?_ ?_
    · exact (wI_X12_ruleClause_b38 h1 h0 h2 h3 h4 h5 h6 h7 h8 h9 h10 h11 h12 h13 e2)
    · exact (wI_X12_ruleClause_b38 h1 h0 h2 h3 h4 h5 h6 h7 h8 h9 h10 h11 h12 h13 e2)
  · exact (wI_X12_ruleClause_b38 h1 h0 h2 h3 h4 h5 h6 h7 h8 h9 h10 h11 h12 h13 e2)
set_option maxHeartbeats 40000 in
set_option maxRecDepth 100000 in
theorem wI_X12_bookClause_b67 {T : zT} {k0 : Nat} {x2 : Int32} {S S0 : zS} {a b : Nat} (h0 : ¬ (a = k0 ∧ b = 3)) (hS : S.1 a b = S0.1 a b) : zwl (fX12_bookClause_b67 T k0 x2 S) (fun q0 => q0.2.1 a b = S0.1 a b) := by
  unfold fX12_bookClause_b67
  refine zwl_b (wI_X12_fails h0 hS) (fun r1 S17 e2 => ?_)
  exact zwl_r e2
set_option maxHeartbeats 40000 in
set_option maxRecDepth 100000 in
theorem wI_X12_bookClause_b177 {T : zT} {k0 : Nat} {x4 : Int32} {S S0 : zS} {a b : Nat} (h0 : ¬ a = zr T k0 20) (hS : S.1 a b = S0.1 a b) : zwl (fX12_bookClause_b177 T k0 x4 S) (fun q0 => q0.2.1 a b = S0.1 a b) := by
  unfold fX12_bookClause_b177
  refine zwl_g ?_
  refine zwl_sIa h0 hS (fun S34 e1 => ?_)
  exact zwl_r e1
set_option maxHeartbeats 40000 in
set_option maxRecDepth 100000 in
theorem wI_X12_bookClause_b74 {T : zT} {k0 : Nat} {x1 : Int32} {x3 : Int32} {S S0 : zS} {a b : Nat} (h0 : ¬ (a = k0 ∧ b = 2)) (h1 : ¬ a = zr T k0 15) (h2 : ¬ a = zr T k0 19) (h3 : ¬ (a = k0 ∧ b = 3)) (h4 : ¬ a = zr T k0 22) (h5 : ¬ a = zr T k0 23) (h6 : ¬ a = zr T k0 24) (h7 : ¬ a = zr T k0 25) (h8 : ¬ a = zr T k0 26) (h9 : ¬ a = zr T k0 27) (h10 : ¬ a = zr T k0 28) (h11 : ¬ a = zr T k0 20) (h12 : ¬ a = zr T k0 16) (h13 : ¬ a = zr T k0 17) (h14 : ¬ (a = k0 ∧ b = 9)) (h15 : ¬ a = zr T k0 12) (h16 : ¬ a = zr T k0 13) (h17 : ¬ (a = k0 ∧ b = 6)) (h18 : ¬ (a = k0 ∧ b = 7)) (h19 : ¬ a = zr T k0 21) (h20 : ¬ (a = k0 ∧ b = 8)) (h21 : ¬ a = zr T k0 29) (h22 : ¬ a = zr T k0 32) (h23 : ¬ a = zr T k0 33) (h24 : ¬ a = zr T k0 30) (h25 : ¬ a = zr T k0 31) (hS : S.1 a b = S0.1 a b) : zwl (fX12_bookClause_b74 T k0 x1 x3 S) (fun q0 => q0.2.1 a b = S0.1 a b) := by
  unfold fX12_bookClause_b74
  refine zwl_t (fun r19 => ?_)
  refine zwl_sIf h0 hS (fun S21 e1 => ?_)
  refine zwl_v (fun u22 => ?_)
  refine zwl_g ?_
  refine zwl_sIa h1 e1 (fun S24 e2 => ?_)
  refine zwl_g ?_
  refine zwl_sIa h2 e2 (fun S26 e3 => ?_)
  refine zwl_i ?_ ?_
  · refine zwl_b (wI_X12_thingClause h0 h3 h4 h5 h6 h7 h8 h9 h10 e3) (fun r4 S48 e5 => ?_)
    exact (wI_X12_bookClause_b177 h11 e5)
  · refine zwl_i ?_ ?_
    · refine zwl_b (wI_X12_setClause h0 h3 h12 h13 h2 h14 h15 h16 h17 h18 h19 h20 e3) (fun r6 S45 e7 => ?_)
      exact (wI_X12_bookClause_b177 h11 e7)
    · refine zwl_i ?_ ?_
      · refine zwl_b (wI_X12_amount h0 h3 e3) (fun r35 S37 e8 => ?_)
        refine zwl_g ?_
        refine zwl_sIa h13 e8 (fun S39 e9 => ?_)
        refine zwl_b (wI_X12_ifTest h0 h14 h15 h16 h17 h18 h3 h19 h20 e9) (fun r10 S42 e11 => ?_)
        exact (wI_X12_bookClause_b177 h11 e11)
      · refine zwl_b (wI_X12_onceClause h0 h3 h21 h22 h23 h24 h25 e3) (fun r12 S32 e13 => ?_)
        exact (wI_X12_bookClause_b177 h11 e13)
set_option maxHeartbeats 40000 in
set_option maxRecDepth 100000 in
theorem wI_X12_bookClause_b34 {T : zT} {k0 : Nat} {x1 : Int32} {x2 : Int32} {x3 : Int32} {S S0 : zS} {a b : Nat} (h0 : ¬ (a = k0 ∧ b = 3)) (h1 : ¬ (a = k0 ∧ b = 2)) (h2 : ¬ a = zr T k0 15) (h3 : ¬ a = zr T k0 19) (h4 : ¬ a = zr T k0 22) (h5 : ¬ a = zr T k0 23) (h6 : ¬ a = zr T k0 24) (h7 : ¬ a = zr T k0 25) (h8 : ¬ a = zr T k0 26) (h9 : ¬ a = zr T k0 27) (h10 : ¬ a = zr T k0 28) (h11 : ¬ a = zr T k0 20) (h12 : ¬ a = zr T k0 16) (h13 : ¬ a = zr T k0 17) (h14 : ¬ (a = k0 ∧ b = 9)) (h15 : ¬ a = zr T k0 12) (h16 : ¬ a = zr T k0 13) (h17 : ¬ (a = k0 ∧ b = 6)) (h18 : ¬ (a = k0 ∧ b = 7)) (h19 : ¬ a = zr T k0 21) (h20 : ¬ (a = k0 ∧ b = 8)) (h21 : ¬ a = zr T k0 29) (h22 : ¬ a = zr T k0 32) (h23 : ¬ a = zr T k0 33) (h24 : ¬ a = zr T k0 30) (h25 : ¬ a = zr T k0 31) (hS : S.1 a b = S0.1 a b) : zwl (fX12_bookClause_b34 T k0 x1 x2 x3 S) (fun q0 => q0.2.1 a b = S0.1 a b) := by
  unfold fX12_bookClause_b34
  refine zwl_i ?_ ?_
  · refine zwl_b (wI_X12_fails h0 hS) (fun r1 S54 e2 => ?_)
    exact zwl_r e2
  · refine zwl_i ?_ ?_
    · exact (wI_X12_bookClause_b67 h0 hS)
    · refine zwl_i ?_ ?_
      · exact (wI_X12_bookClause_b74 h1 h2 h3 h0 h4 h5 h6 h7 h8 h9 h10 h11 h12 h13 h14 h15 h16 h17 h18 h19 h20 h21 h22 h23 h24 h25 hS)
      · refine zwl_t (fun r49 => ?_)
        refine zwl_i ?_ ?_
        · exact (wI_X12_bookClause_b74 h1 h2 h3 h0 h4 h5 h6 h7 h8 h9 h10 h11 h12 h13 h14 h15 h16 h17 h18 h19 h20 h21 h22 h23 h24 h25 hS)
        · exact (wI_X12_bookClause_b67 h0 hS)
set_option maxHeartbeats 40000 in
set_option maxRecDepth 100000 in
theorem wI_X12_bookClause {T : zT} {k0 : Nat} {x1 : Int32} {S S0 : zS} {a b : Nat} (h0 : ¬ (a = k0 ∧ b = 2)) (h1 : ¬ (a = k0 ∧ b = 3)) (h2 : ¬ a = zr T k0 15) (h3 : ¬ a = zr T k0 19) (h4 : ¬ a = zr T k0 22) (h5 : ¬ a = zr T k0 23) (h6 : ¬ a = zr T k0 24) (h7 : ¬ a = zr T k0 25) (h8 : ¬ a = zr T k0 26) (h9 : ¬ a = zr T k0 27) (h10 : ¬ a = zr T k0 28) (h11 : ¬ a = zr T k0 20) (h12 : ¬ a = zr T k0 16) (h13 : ¬ a = zr T k0 17) (h14 : ¬ (a = k0 ∧ b = 9)) (h15 : ¬ a = zr T k0 12) (h16 : ¬ a = zr T k0 13) (h17 : ¬ (a = k0 ∧ b = 6)) (h18 : ¬ (a = k0 ∧ b = 7)) (h19 : ¬ a = zr T k0 21) (h20 : ¬ (a = k0 ∧ b = 8)) (h21 : ¬ a = zr T k0 29) (h22 : ¬ a = zr T k0 32) (h23 : ¬ a = zr T k0 33) (h24 : ¬ a = zr T k0 30) (h25 : ¬ a = zr T k0 31) (hS : S.1 a b = S0.1 a b) : zwl (fX12_bookClause T k0 x1 S) (fun q0 => q0.2.1 a b = S0.1 a b) := by
  unfold fX12_bookClause
  refine zwl_b (wI_X12_blanks h0 hS) (fun r1 S3 e2 => ?_)
  refine zwl_v (fun u4 => ?_)
  refine zwl_t (fun e12 => ?_)
  exact (wI_X12_bookClause_b34 h1 h0 h2 h3 h4 h5 h6 h7 h8 h9 h10 h11 h12 h13 h14 h15 h16 h17 h18 h19 h20 h21 h22 h23 h24 h25 e2)
set_option maxHeartbeats 40000 in
set_option maxRecDepth 100000 in
theorem wI_X12_reads_b138 {T : zT} {k0 : Nat} {x1 : Int32} {s0 : Int32} {S S0 : zS} {a b : Nat} (h0 : ¬ (a = k0 ∧ b = 2)) (hS : S.1 a b = S0.1 a b) : zwl (fX12_reads_b138 T k0 x1 s0 S) (Sum.elim (fun q1 => q1.2.2.1 a b = S0.1 a b) (fun q1 => q1.2.1 a b = S0.1 a b)) := by
  unfold fX12_reads_b138
  refine zwl_sIf h0 hS (fun S19 e1 => ?_)
  exact zwl_r e1
set_option maxHeartbeats 40000 in
set_option maxRecDepth 100000 in
theorem wI_X12_reads_b137 {T : zT} {k0 : Nat} {x1 : Int32} {S S0 : zS} {a b : Nat} (h0 : ¬ (a = k0 ∧ b = 2)) (hS : S.1 a b = S0.1 a b) : zwl (fX12_reads_b137 T k0 x1 S) (Sum.elim (fun q1 => q1.2.2.1 a b = S0.1 a b) (fun q1 => q1.2.1 a b = S0.1 a b)) := by
  unfold fX12_reads_b137
  exact (wI_X12_reads_b138 h0 hS)
set_option maxHeartbeats 40000 in
set_option maxRecDepth 100000 in
theorem wI_X12_reads_b115 {T : zT} {k0 : Nat} {x1 : Int32} {S S0 : zS} {a b : Nat} (h0 : ¬ (a = k0 ∧ b = 2)) (hS : S.1 a b = S0.1 a b) : zwl (fX12_reads_b115 T k0 x1 S) (Sum.elim (fun q1 => q1.2.2.1 a b = S0.1 a b) (fun q1 => q1.2.1 a b = S0.1 a b)) := by
  unfold fX12_reads_b115
  refine zwl_i ?_ ?_
  · refine zwl_i ?_ ?_
    · exact (wI_X12_reads_b137 h0 hS)
    · exact (wI_X12_reads_b138 h0 hS)
  · exact (wI_X12_reads_b137 h0 hS)
set_option maxHeartbeats 40000 in
set_option maxRecDepth 100000 in
theorem wI_X12_reads_b72 {T : zT} {k0 : Nat} {x1 : Int32} {S S0 : zS} {a b : Nat} (h0 : ¬ (a = k0 ∧ b = 2)) (h1 : ¬ (a = k0 ∧ b = 3)) (hS : S.1 a b = S0.1 a b) : zwl (fX12_reads_b72 T k0 x1 S) (Sum.elim (fun q1 => q1.2.2.1 a b = S0.1 a b) (fun q1 => q1.2.1 a b = S0.1 a b)) := by
  unfold fX12_reads_b72
  refine zwl_v (fun u13 => ?_)
  refine zwl_b (wI_X12_blanks h0 hS) (fun r1 S16 e2 => ?_)
  refine zwl_i ?_ ?_
  · refine zwl_i ?_ ?_
    · exact (wI_X12_reads_b115 h0 e2)
    · refine zwl_t (fun r22 => ?_)
      refine zwl_i ?_ ?_
      · exact (wI_X12_reads_b115 h0 e2)
      · refine zwl_b (wI_X12_fails h1 e2) (fun r3 S27 e4 => ?_)
        exact (wI_X12_reads_b115 h0 e4)
  · exact (wI_X12_reads_b115 h0 e2)
set_option maxHeartbeats 40000 in
set_option maxRecDepth 100000 in
theorem wI_X12_reads_l47 {T : zT} {k0 : Nat} {x1 : Int32} {x2 : Int32} {S S0 : zS} {a b : Nat} (h0 : ¬ (a = k0 ∧ b = 2)) (h1 : ¬ (a = k0 ∧ b = 3)) (h2 : ¬ a = zr T k0 15) (h3 : ¬ a = zr T k0 19) (h4 : ¬ a = zr T k0 22) (h5 : ¬ a = zr T k0 23) (h6 : ¬ a = zr T k0 24) (h7 : ¬ a = zr T k0 25) (h8 : ¬ a = zr T k0 26) (h9 : ¬ a = zr T k0 27) (h10 : ¬ a = zr T k0 28) (h11 : ¬ a = zr T k0 20) (h12 : ¬ a = zr T k0 16) (h13 : ¬ a = zr T k0 17) (h14 : ¬ (a = k0 ∧ b = 9)) (h15 : ¬ a = zr T k0 12) (h16 : ¬ a = zr T k0 13) (h17 : ¬ (a = k0 ∧ b = 6)) (h18 : ¬ (a = k0 ∧ b = 7)) (h19 : ¬ a = zr T k0 21) (h20 : ¬ (a = k0 ∧ b = 8)) (h21 : ¬ a = zr T k0 29) (h22 : ¬ a = zr T k0 32) (h23 : ¬ a = zr T k0 33) (h24 : ¬ a = zr T k0 30) (h25 : ¬ a = zr T k0 31) (h26 : ¬ a = zr T k0 18) (hS : S.1 a b = S0.1 a b) : zwl (fX12_reads_l47 T k0 x1 x2 S) (Sum.elim (fun q1 => q1.2.2.1 a b = S0.1 a b) (fun q1 => q1.2.1 a b = S0.1 a b)) := by
  unfold fX12_reads_l47
  refine zwl_i ?_ ?_
  · exact zwl_r hS
  · refine zwl_i ?_ ?_
    · refine zwl_b (wI_X12_bookClause h0 h1 h2 h3 h4 h5 h6 h7 h8 h9 h10 h11 h12 h13 h14 h15 h16 h17 h18 h19 h20 h21 h22 h23 h24 h25 hS) (fun r1 S12 e2 => ?_)
      exact (wI_X12_reads_b72 h0 h1 e2)
    · refine zwl_b (wI_X12_ruleClause h0 h1 h2 h26 h13 h3 h14 h15 h16 h17 h18 h19 h20 h11 hS) (fun r3 S30 e4 => ?_)
      exact (wI_X12_reads_b72 h0 h1 e4)
set_option maxHeartbeats 40000 in
set_option maxRecDepth 100000 in
theorem wI_X12_reads_b40 {T : zT} {k0 : Nat} {s0 : Int32} {s1 : Nat} {S S0 : zS} {a b : Nat} (h0 : ¬ (a = s1 ∧ b = 10)) (h1 : ¬ (a = k0 ∧ b = 2)) (h2 : ¬ (a = k0 ∧ b = 3)) (h3 : ¬ a = zr T k0 15) (h4 : ¬ a = zr T k0 19) (h5 : ¬ a = zr T k0 22) (h6 : ¬ a = zr T k0 23) (h7 : ¬ a = zr T k0 24) (h8 : ¬ a = zr T k0 25) (h9 : ¬ a = zr T k0 26) (h10 : ¬ a = zr T k0 27) (h11 : ¬ a = zr T k0 28) (h12 : ¬ a = zr T k0 20) (h13 : ¬ a = zr T k0 16) (h14 : ¬ a = zr T k0 17) (h15 : ¬ (a = k0 ∧ b = 9)) (h16 : ¬ a = zr T k0 12) (h17 : ¬ a = zr T k0 13) (h18 : ¬ (a = k0 ∧ b = 6)) (h19 : ¬ (a = k0 ∧ b = 7)) (h20 : ¬ a = zr T k0 21) (h21 : ¬ (a = k0 ∧ b = 8)) (h22 : ¬ a = zr T k0 29) (h23 : ¬ a = zr T k0 32) (h24 : ¬ a = zr T k0 33) (h25 : ¬ a = zr T k0 30) (h26 : ¬ a = zr T k0 31) (h27 : ¬ a = zr T k0 18) (h28 : ¬ (a = k0 ∧ b = 1)) (h29 : ¬ a = zr T k0 14) (hS : S.1 a b = S0.1 a b) : zwl (fX12_reads_b40 T k0 s0 s1 S) (fun q0 => q0.2.1 a b = S0.1 a b) := by
  unfold fX12_reads_b40
  refine zwl_sIf h0 hS (fun S7 e1 => ?_)
  refine zwl_b1 (zwl_lp (I := (fun q0 => q0.2.2.1 a b = S0.1 a b)) (Q := (fun q0 => q0.2.1 a b = S0.1 a b)) (fun a e4 => (wI_X12_reads_l47 h1 h2 h3 h4 h5 h6 h7 h8 h9 h10 h11 h12 h13 h14 h15 h16 h17 h18 h19 h20 h21 h22 h23 h24 h25 h26 h27 e4)) e1) (fun e31 e2 => ?_)
  refine zwl_sIf h28 e2 (fun S32 e5 => ?_)
  refine zwl_g ?_
  refine zwl_sIa h29 e5 (fun S34 e6 => ?_)
  exact zwl_r e6
set_option maxHeartbeats 40000 in
set_option maxRecDepth 100000 in
theorem wI_X12_reads {T : zT} {k0 : Nat} {S S0 : zS} {a b : Nat} (h0 : ¬ (a = k0 ∧ b = 2)) (h1 : ¬ (a = k0 ∧ b = 3)) (h2 : ¬ (a = k0 ∧ b = 6)) (h3 : ¬ (a = k0 ∧ b = 7)) (h4 : ¬ (a = k0 ∧ b = 8)) (h5 : ¬ (a = k0 ∧ b = 10)) (h6 : ¬ a = zr T k0 15) (h7 : ¬ a = zr T k0 19) (h8 : ¬ a = zr T k0 22) (h9 : ¬ a = zr T k0 23) (h10 : ¬ a = zr T k0 24) (h11 : ¬ a = zr T k0 25) (h12 : ¬ a = zr T k0 26) (h13 : ¬ a = zr T k0 27) (h14 : ¬ a = zr T k0 28) (h15 : ¬ a = zr T k0 20) (h16 : ¬ a = zr T k0 16) (h17 : ¬ a = zr T k0 17) (h18 : ¬ (a = k0 ∧ b = 9)) (h19 : ¬ a = zr T k0 12) (h20 : ¬ a = zr T k0 13) (h21 : ¬ a = zr T k0 21) (h22 : ¬ a = zr T k0 29) (h23 : ¬ a = zr T k0 32) (h24 : ¬ a = zr T k0 33) (h25 : ¬ a = zr T k0 30) (h26 : ¬ a = zr T k0 31) (h27 : ¬ a = zr T k0 18) (h28 : ¬ (a = k0 ∧ b = 1)) (h29 : ¬ a = zr T k0 14) (hS : S.1 a b = S0.1 a b) : zwl (fX12_reads T k0 S) (fun q0 => q0.2.1 a b = S0.1 a b) := by
  unfold fX12_reads
  refine zwl_sIf h0 hS (fun S1 e1 => ?_)
  refine zwl_sIf h1 e1 (fun S2 e2 => ?_)
  refine zwl_sIf h2 e2 (fun S3 e3 => ?_)
  refine zwl_sIf h3 e3 (fun S4 e4 => ?_)
  refine zwl_sIf h4 e4 (fun S5 e5 => ?_)
  refine zwl_i ?_ ?_
  · exact (wI_X12_reads_b40 h5 h0 h1 h6 h7 h8 h9 h10 h11 h12 h13 h14 h15 h16 h17 h18 h19 h20 h2 h3 h21 h4 h22 h23 h24 h25 h26 h27 h28 h29 e5)
  · exact (wI_X12_reads_b40 h5 h0 h1 h6 h7 h8 h9 h10 h11 h12 h13 h14 h15 h16 h17 h18 h19 h20 h2 h3 h21 h4 h22 h23 h24 h25 h26 h27 h28 h29 e5)
set_option maxHeartbeats 40000 in
set_option maxRecDepth 100000 in
theorem wI_X12_book {T : zT} {k0 : Nat} {S S0 : zS} {a b : Nat} (h0 : ¬ (a = k0 ∧ b = 4)) (h1 : ¬ a = zr T k0 22) (h2 : ¬ a = zr T k0 23) (h3 : ¬ a = zr T k0 24) (h4 : ¬ a = zr T k0 25) (h5 : ¬ a = zr T k0 26) (h6 : ¬ a = zr T k0 27) (h7 : ¬ a = zr T k0 28) (h8 : ¬ a = zr T k0 29) (h9 : ¬ a = zr T k0 30) (h10 : ¬ a = zr T k0 31) (h11 : ¬ a = zr T k0 32) (h12 : ¬ a = zr T k0 33) (h13 : ¬ (a = k0 ∧ b = 2)) (h14 : ¬ (a = k0 ∧ b = 3)) (h15 : ¬ (a = k0 ∧ b = 6)) (h16 : ¬ (a = k0 ∧ b = 7)) (h17 : ¬ (a = k0 ∧ b = 8)) (h18 : ¬ (a = k0 ∧ b = 10)) (h19 : ¬ a = zr T k0 15) (h20 : ¬ a = zr T k0 19) (h21 : ¬ a = zr T k0 20) (h22 : ¬ a = zr T k0 16) (h23 : ¬ a = zr T k0 17) (h24 : ¬ (a = k0 ∧ b = 9)) (h25 : ¬ a = zr T k0 12) (h26 : ¬ a = zr T k0 13) (h27 : ¬ a = zr T k0 21) (h28 : ¬ a = zr T k0 18) (h29 : ¬ (a = k0 ∧ b = 1)) (h30 : ¬ a = zr T k0 14) (h31 : ¬ (a = k0 ∧ b = 36)) (hS : S.1 a b = S0.1 a b) : zwl (fX12_book T k0 S) (fun q0 => q0.2.1 a b = S0.1 a b) := by
  unfold fX12_book
  refine zwl_sIf h0 hS (fun S1 e1 => ?_)
  refine zwl_b (wI_X12_clears h1 h2 h3 h4 h5 h6 h7 h8 h9 h10 h11 h12 e1) (fun r2 S4 e3 => ?_)
  refine zwl_b (wI_X12_reads h13 h14 h15 h16 h17 h18 h19 h20 h1 h2 h3 h4 h5 h6 h7 h21 h22 h23 h24 h25 h26 h27 h8 h11 h12 h9 h10 h28 h29 h30 e3) (fun r5 S7 e4 => ?_)
  refine zwl_i ?_ ?_
  · refine zwl_b (wI_X12_over h25 e4) (fun r5 S11 e6 => ?_)
    refine zwl_b (wI_X12_over h26 e6) (fun r7 S14 e8 => ?_)
    refine zwl_b (wI_X12_over h30 e8) (fun r9 S17 e10 => ?_)
    refine zwl_b (wI_X12_over h19 e10) (fun r11 S20 e12 => ?_)
    refine zwl_b (wI_X12_over h22 e12) (fun r13 S23 e14 => ?_)
    refine zwl_b (wI_X12_over h23 e14) (fun r15 S26 e16 => ?_)
    refine zwl_b (wI_X12_over h20 e16) (fun r17 S29 e18 => ?_)
    refine zwl_b (wI_X12_over h21 e18) (fun r19 S32 e20 => ?_)
    refine zwl_b (wI_X12_over h1 e20) (fun r21 S35 e22 => ?_)
    refine zwl_b (wI_X12_over h2 e22) (fun r23 S38 e24 => ?_)
    refine zwl_b (wI_X12_over h3 e24) (fun r25 S41 e26 => ?_)
    refine zwl_b (wI_X12_over h4 e26) (fun r27 S44 e28 => ?_)
    refine zwl_b (wI_X12_over h5 e28) (fun r29 S47 e30 => ?_)
    refine zwl_b (wI_X12_over h6 e30) (fun r31 S50 e32 => ?_)
    refine zwl_b (wI_X12_over h7 e32) (fun r33 S53 e34 => ?_)
    refine zwl_b (wI_X12_over h8 e34) (fun r35 S56 e36 => ?_)
    refine zwl_b (wI_X12_over h9 e36) (fun r37 S59 e38 => ?_)
    refine zwl_b (wI_X12_over h10 e38) (fun r39 S62 e40 => ?_)
    refine zwl_b (wI_X12_over h11 e40) (fun r41 S65 e42 => ?_)
    refine zwl_b (wI_X12_over h12 e42) (fun r43 S68 e44 => ?_)
    refine zwl_sIf h31 e44 (fun S69 e45 => ?_)
    refine zwl_t (fun r70 => ?_)
    refine zwl_t (fun r72 => ?_)
    exact zwl_r e45
  · exact zwl_r e4
set_option maxHeartbeats 40000 in
set_option maxRecDepth 100000 in
theorem wI_X12_rule_b61 {T : zT} {s0 : Int32} {S S0 : zS} {a b : Nat}  (hS : S.1 a b = S0.1 a b) : zwl (fX12_rule_b61 T s0 S) (fun q0 => q0.2.1 a b = S0.1 a b) := by
  unfold fX12_rule_b61
  exact zwl_r hS
set_option maxHeartbeats 40000 in
set_option maxRecDepth 100000 in
theorem wI_X12_rule_b40 {T : zT} {k0 : Nat} {x1 : Int32} {s0 : Int32} {s1 : Int32} {s2 : Nat} {S S0 : zS} {a b : Nat} (h0 : ¬ (a = s2 ∧ b = 5)) (hS : S.1 a b = S0.1 a b) : zwl (fX12_rule_b40 T k0 x1 s0 s1 s2 S) (fun q0 => q0.2.1 a b = S0.1 a b) := by
  unfold fX12_rule_b40
  refine zwl_sIf h0 hS (fun S7 e1 => ?_)
  refine zwl_i ?_ ?_
  · exact (wI_X12_rule_b61  e1)
  · exact (wI_X12_rule_b61  e1)
set_option maxHeartbeats 40000 in
set_option maxRecDepth 100000 in
theorem wI_X12_rule {T : zT} {k0 : Nat} {S S0 : zS} {a b : Nat} (h0 : ¬ (a = k0 ∧ b = 4)) (h1 : ¬ (a = k0 ∧ b = 2)) (h2 : ¬ (a = k0 ∧ b = 3)) (h3 : ¬ (a = k0 ∧ b = 6)) (h4 : ¬ (a = k0 ∧ b = 7)) (h5 : ¬ (a = k0 ∧ b = 8)) (h6 : ¬ (a = k0 ∧ b = 10)) (h7 : ¬ a = zr T k0 15) (h8 : ¬ a = zr T k0 19) (h9 : ¬ a = zr T k0 22) (h10 : ¬ a = zr T k0 23) (h11 : ¬ a = zr T k0 24) (h12 : ¬ a = zr T k0 25) (h13 : ¬ a = zr T k0 26) (h14 : ¬ a = zr T k0 27) (h15 : ¬ a = zr T k0 28) (h16 : ¬ a = zr T k0 20) (h17 : ¬ a = zr T k0 16) (h18 : ¬ a = zr T k0 17) (h19 : ¬ (a = k0 ∧ b = 9)) (h20 : ¬ a = zr T k0 12) (h21 : ¬ a = zr T k0 13) (h22 : ¬ a = zr T k0 21) (h23 : ¬ a = zr T k0 29) (h24 : ¬ a = zr T k0 32) (h25 : ¬ a = zr T k0 33) (h26 : ¬ a = zr T k0 30) (h27 : ¬ a = zr T k0 31) (h28 : ¬ a = zr T k0 18) (h29 : ¬ (a = k0 ∧ b = 1)) (h30 : ¬ a = zr T k0 14) (h31 : ¬ (a = k0 ∧ b = 5)) (hS : S.1 a b = S0.1 a b) : zwl (fX12_rule T k0 S) (fun q0 => q0.2.1 a b = S0.1 a b) := by
  unfold fX12_rule
  refine zwl_i ?_ ?_
  · exact zwl_r hS
  · refine zwl_sIf h0 hS (fun S2 e1 => ?_)
    refine zwl_b (wI_X12_reads h1 h2 h3 h4 h5 h6 h7 h8 h9 h10 h11 h12 h13 h14 h15 h16 h17 h18 h19 h20 h21 h22 h23 h24 h25 h26 h27 h28 h29 h30 e1) (fun r3 S5 e2 => ?_)
    refine zwl_i ?_ ?_
    · exact (wI_X12_rule_b40 h31 e2)
    · exact (wI_X12_rule_b40 h31 e2)
set_option maxHeartbeats 40000 in
set_option maxRecDepth 100000 in
theorem wI_X6_readTestB_b37 {T : zT} {rc : Nat → zT → Nat → Int32 → zS → Option (Unit × zS)} {k0 : Nat} {x1 : Int32} {x2 : Int32} {x3 : Int32} {S S0 : zS} {a b : Nat} (hrc : ∀ (w : Nat) (x : Int32) (S : zS), S.1 a b = S0.1 a b → zwl (rc w T k0 x S) (fun q0 => q0.2.1 a b = S0.1 a b)) (h0 : ¬ (a = k0 ∧ b = 1)) (h1 : ¬ (a = k0 ∧ b = 2)) (h2 : ¬ (a = k0 ∧ b = 3)) (h3 : ¬ (a = k0 ∧ b = 4)) (h4 : ¬ (a = zr T k0 9 ∧ b = 2)) (h5 : ¬ a = zr T (zr T k0 9) 0) (h6 : ¬ (a = zr T k0 9 ∧ b = 1)) (h7 : ¬ (a = k0 ∧ b = 5)) (h8 : ¬ (a = k0 ∧ b = 6)) (hS : S.1 a b = S0.1 a b) : zwl (fX6_readTestB_b37 T rc k0 x1 x2 x3 S) (Sum.elim (fun q1 => q1.2.1 a b = S0.1 a b) (Sum.elim (fun q2 => q2.1 a b = S0.1 a b) (fun q2 => q2.1 a b = S0.1 a b))) := by
  unfold fX6_readTestB_b37
  refine zwl_i ?_ ?_
  · refine zwl_i ?_ ?_
    · refine zwl_b (wI_X6_next h0 h1 h2 h3 hS) (fun r1 S11 e2 => ?_)
      refine zwl_v (fun u12 => ?_)
      exact zwl_r e2
    · exact zwl_r hS
  · exact zwl_r hS
set_option maxHeartbeats 40000 in
set_option maxRecDepth 100000 in
theorem wI_X6_readTestB_l11 {T : zT} {rc : Nat → zT → Nat → Int32 → zS → Option (Unit × zS)} {k0 : Nat} {x1 : Int32} {x2 : Int32} {x3 : Int32} {S S0 : zS} {a b : Nat} (hrc : ∀ (w : Nat) (x : Int32) (S : zS), S.1 a b = S0.1 a b → zwl (rc w T k0 x S) (fun q0 => q0.2.1 a b = S0.1 a b)) (h0 : ¬ (a = k0 ∧ b = 1)) (h1 : ¬ (a = k0 ∧ b = 2)) (h2 : ¬ (a = k0 ∧ b = 3)) (h3 : ¬ (a = k0 ∧ b = 4)) (h4 : ¬ (a = zr T k0 9 ∧ b = 2)) (h5 : ¬ a = zr T (zr T k0 9) 0) (h6 : ¬ (a = zr T k0 9 ∧ b = 1)) (h7 : ¬ (a = k0 ∧ b = 5)) (h8 : ¬ (a = k0 ∧ b = 6)) (hS : S.1 a b = S0.1 a b) : zwl (fX6_readTestB_l11 T rc k0 x1 x2 x3 S) (Sum.elim (fun q1 => q1.2.1 a b = S0.1 a b) (Sum.elim (fun q2 => q2.1 a b = S0.1 a b) (fun q2 => q2.1 a b = S0.1 a b))) := by
  unfold fX6_readTestB_l11
  refine zwl_i ?_ ?_
  · exact zwl_r hS
  · refine zwl_b (hrc _ _ _ hS) (fun r1 S5 e2 => ?_)
    refine zwl_i ?_ ?_
    · exact (wI_X6_readTestB_b37 hrc h0 h1 h2 h3 h4 h5 h6 h7 h8 e2)
    · refine zwl_b (wI_X2_add h4 h5 h6 e2) (fun r3 S15 e4 => ?_)
      exact (wI_X6_readTestB_b37 hrc h0 h1 h2 h3 h4 h5 h6 h7 h8 e4)
set_option maxHeartbeats 40000 in
set_option maxRecDepth 100000 in
theorem wI_X6_readTestB_b80 {T : zT} {rc : Nat → zT → Nat → Int32 → zS → Option (Unit × zS)} {k0 : Nat} {x1 : Int32} {x2 : Int32} {S S0 : zS} {a b : Nat} (hrc : ∀ (w : Nat) (x : Int32) (S : zS), S.1 a b = S0.1 a b → zwl (rc w T k0 x S) (fun q0 => q0.2.1 a b = S0.1 a b)) (h0 : ¬ (a = k0 ∧ b = 1)) (h1 : ¬ (a = k0 ∧ b = 2)) (h2 : ¬ (a = k0 ∧ b = 3)) (h3 : ¬ (a = k0 ∧ b = 4)) (h4 : ¬ (a = zr T k0 9 ∧ b = 2)) (h5 : ¬ a = zr T (zr T k0 9) 0) (h6 : ¬ (a = zr T k0 9 ∧ b = 1)) (h7 : ¬ (a = k0 ∧ b = 5)) (h8 : ¬ (a = k0 ∧ b = 6)) (hS : S.1 a b = S0.1 a b) : zwl (fX6_readTestB_b80 T rc k0 x1 x2 S) (Sum.elim (fun q1 => q1.2.1 a b = S0.1 a b) (Sum.elim (fun q2 => q2.1 a b = S0.1 a b) (fun q2 => q2.1 a b = S0.1 a b))) := by
  unfold fX6_readTestB_b80
  refine zwl_i ?_ ?_
  · refine zwl_i ?_ ?_
    · refine zwl_b (wI_X6_next h0 h1 h2 h3 hS) (fun r1 S22 e2 => ?_)
      refine zwl_v (fun u23 => ?_)
      exact zwl_r e2
    · exact zwl_r hS
  · exact zwl_r hS
set_option maxHeartbeats 40000 in
set_option maxRecDepth 100000 in
theorem wI_X6_readTestB_b66 {T : zT} {rc : Nat → zT → Nat → Int32 → zS → Option (Unit × zS)} {k0 : Nat} {x1 : Int32} {x2 : Int32} {S S0 : zS} {a b : Nat} (hrc : ∀ (w : Nat) (x : Int32) (S : zS), S.1 a b = S0.1 a b → zwl (rc w T k0 x S) (fun q0 => q0.2.1 a b = S0.1 a b)) (h0 : ¬ (a = k0 ∧ b = 1)) (h1 : ¬ (a = k0 ∧ b = 2)) (h2 : ¬ (a = k0 ∧ b = 3)) (h3 : ¬ (a = k0 ∧ b = 4)) (h4 : ¬ (a = zr T k0 9 ∧ b = 2)) (h5 : ¬ a = zr T (zr T k0 9) 0) (h6 : ¬ (a = zr T k0 9 ∧ b = 1)) (h7 : ¬ (a = k0 ∧ b = 5)) (h8 : ¬ (a = k0 ∧ b = 6)) (hS : S.1 a b = S0.1 a b) : zwl (fX6_readTestB_b66 T rc k0 x1 x2 S) (Sum.elim (fun q1 => q1.2.1 a b = S0.1 a b) (Sum.elim (fun q2 => q2.1 a b = S0.1 a b) (fun q2 => q2.1 a b = S0.1 a b))) := by
  unfold fX6_readTestB_b66
  refine zwl_i ?_ ?_
  · exact (wI_X6_readTestB_b80 hrc h0 h1 h2 h3 h4 h5 h6 h7 h8 hS)
  · refine zwl_b (wI_X2_add h4 h5 h6 hS) (fun r1 S26 e2 => ?_)
    exact (wI_X6_readTestB_b80 hrc h0 h1 h2 h3 h4 h5 h6 h7 h8 e2)
set_option maxHeartbeats 40000 in
set_option maxRecDepth 100000 in
theorem wI_X6_readTestB_l2 {T : zT} {rc : Nat → zT → Nat → Int32 → zS → Option (Unit × zS)} {k0 : Nat} {x1 : Int32} {x2 : Int32} {S S0 : zS} {a b : Nat} (hrc : ∀ (w : Nat) (x : Int32) (S : zS), S.1 a b = S0.1 a b → zwl (rc w T k0 x S) (fun q0 => q0.2.1 a b = S0.1 a b)) (h0 : ¬ (a = k0 ∧ b = 1)) (h1 : ¬ (a = k0 ∧ b = 2)) (h2 : ¬ (a = k0 ∧ b = 3)) (h3 : ¬ (a = k0 ∧ b = 4)) (h4 : ¬ (a = zr T k0 9 ∧ b = 2)) (h5 : ¬ a = zr T (zr T k0 9) 0) (h6 : ¬ (a = zr T k0 9 ∧ b = 1)) (h7 : ¬ (a = k0 ∧ b = 5)) (h8 : ¬ (a = k0 ∧ b = 6)) (hS : S.1 a b = S0.1 a b) : zwl (fX6_readTestB_l2 T rc k0 x1 x2 S) (Sum.elim (fun q1 => q1.2.1 a b = S0.1 a b) (Sum.elim (fun q2 => q2.1 a b = S0.1 a b) (fun q2 => q2.1 a b = S0.1 a b))) := by
  unfold fX6_readTestB_l2
  refine zwl_i ?_ ?_
  · exact zwl_r hS
  · refine zwl_b1 (zwl_lp (I := (fun q0 => q0.2.1 a b = S0.1 a b)) (Q := (Sum.elim (fun q1 => q1.1 a b = S0.1 a b) (fun q1 => q1.1 a b = S0.1 a b))) (fun a e3 => (wI_X6_readTestB_l11 hrc h0 h1 h2 h3 h4 h5 h6 h7 h8 e3)) hS) (fun e16 e1 => ?_)
    refine zwl_m e1 (fun e16_0 e4 => ?_) (fun e16_1 e5 => ?_)
    · exact (wI_X6_readTestB_b66 hrc h0 h1 h2 h3 h4 h5 h6 h7 h8 e4)
    · exact (wI_X6_readTestB_b66 hrc h0 h1 h2 h3 h4 h5 h6 h7 h8 e5)
set_option maxHeartbeats 40000 in
set_option maxRecDepth 100000 in
theorem wI_X6_readTestB_b96 {T : zT} {rc : Nat → zT → Nat → Int32 → zS → Option (Unit × zS)} {k0 : Nat} {S S0 : zS} {a b : Nat} (hrc : ∀ (w : Nat) (x : Int32) (S : zS), S.1 a b = S0.1 a b → zwl (rc w T k0 x S) (fun q0 => q0.2.1 a b = S0.1 a b)) (h0 : ¬ (a = k0 ∧ b = 1)) (h1 : ¬ (a = k0 ∧ b = 2)) (h2 : ¬ (a = k0 ∧ b = 3)) (h3 : ¬ (a = k0 ∧ b = 4)) (h4 : ¬ (a = zr T k0 9 ∧ b = 2)) (h5 : ¬ a = zr T (zr T k0 9) 0) (h6 : ¬ (a = zr T k0 9 ∧ b = 1)) (h7 : ¬ (a = k0 ∧ b = 5)) (h8 : ¬ (a = k0 ∧ b = 6)) (hS : S.1 a b = S0.1 a b) : zwl (fX6_readTestB_b96 T rc S) (fun q0 => q0.2.1 a b = S0.1 a b) := by
  unfold fX6_readTestB_b96
  exact zwl_r hS
set_option maxHeartbeats 40000 in
set_option maxRecDepth 100000 in
theorem wI_X6_readTestB {T : zT} {rc : Nat → zT → Nat → Int32 → zS → Option (Unit × zS)} {k0 : Nat} {x1 : Int32} {S S0 : zS} {a b : Nat} (hrc : ∀ (w : Nat) (x : Int32) (S : zS), S.1 a b = S0.1 a b → zwl (rc w T k0 x S) (fun q0 => q0.2.1 a b = S0.1 a b)) (h0 : ¬ (a = k0 ∧ b = 1)) (h1 : ¬ (a = k0 ∧ b = 2)) (h2 : ¬ (a = k0 ∧ b = 3)) (h3 : ¬ (a = k0 ∧ b = 4)) (h4 : ¬ (a = zr T k0 9 ∧ b = 2)) (h5 : ¬ a = zr T (zr T k0 9) 0) (h6 : ¬ (a = zr T k0 9 ∧ b = 1)) (h7 : ¬ (a = k0 ∧ b = 5)) (h8 : ¬ (a = k0 ∧ b = 6)) (hS : S.1 a b = S0.1 a b) : zwl (fX6_readTestB T rc k0 x1 S) (fun q0 => q0.2.1 a b = S0.1 a b) := by
  unfold fX6_readTestB
  refine zwl_b1 (zwl_lp (I := (fun q0 => q0.2.1 a b = S0.1 a b)) (Q := (Sum.elim (fun q1 => q1.1 a b = S0.1 a b) (fun q1 => q1.1 a b = S0.1 a b))) (fun a e3 => (wI_X6_readTestB_l2 hrc h0 h1 h2 h3 h4 h5 h6 h7 h8 e3)) hS) (fun e29 e1 => ?_)
  refine zwl_m e1 (fun e29_0 e4 => ?_) (fun e29_1 e5 => ?_)
  · exact zwl_r e4
  · exact (wI_X6_readTestB_b96 hrc h0 h1 h2 h3 h4 h5 h6 h7 h8 e5)
set_option maxHeartbeats 40000 in
set_option maxRecDepth 100000 in
theorem wI_X6_readFactB_b104 {T : zT} {rc : Nat → zT → Nat → Int32 → zS → Option (Unit × zS)} {k0 : Nat} {S S0 : zS} {a b : Nat} (hrc : ∀ (w : Nat) (x : Int32) (S : zS), S.1 a b = S0.1 a b → zwl (rc w T k0 x S) (fun q0 => q0.2.1 a b = S0.1 a b)) (h0 : ¬ (a = k0 ∧ b = 1)) (h1 : ¬ (a = k0 ∧ b = 2)) (h2 : ¬ (a = k0 ∧ b = 3)) (h3 : ¬ (a = k0 ∧ b = 4)) (h4 : ¬ (a = zr T k0 9 ∧ b = 2)) (h5 : ¬ a = zr T (zr T k0 9) 0) (h6 : ¬ (a = zr T k0 9 ∧ b = 1)) (h7 : ¬ (a = k0 ∧ b = 5)) (h8 : ¬ (a = k0 ∧ b = 6)) (hS : S.1 a b = S0.1 a b) : zwl (fX6_readFactB_b104 T rc S) (fun q0 => q0.2.1 a b = S0.1 a b) := by
  unfold fX6_readFactB_b104
  exact zwl_r hS
set_option maxHeartbeats 40000 in
set_option maxRecDepth 100000 in
theorem wI_X6_readFactB_b51 {T : zT} {rc : Nat → zT → Nat → Int32 → zS → Option (Unit × zS)} {k0 : Nat} {x1 : Int32} {x2 : Int32} {S S0 : zS} {a b : Nat} (hrc : ∀ (w : Nat) (x : Int32) (S : zS), S.1 a b = S0.1 a b → zwl (rc w T k0 x S) (fun q0 => q0.2.1 a b = S0.1 a b)) (h0 : ¬ (a = k0 ∧ b = 1)) (h1 : ¬ (a = k0 ∧ b = 2)) (h2 : ¬ (a = k0 ∧ b = 3)) (h3 : ¬ (a = k0 ∧ b = 4)) (h4 : ¬ (a = zr T k0 9 ∧ b = 2)) (h5 : ¬ a = zr T (zr T k0 9) 0) (h6 : ¬ (a = zr T k0 9 ∧ b = 1)) (h7 : ¬ (a = k0 ∧ b = 5)) (h8 : ¬ (a = k0 ∧ b = 6)) (hS : S.1 a b = S0.1 a b) : zwl (fX6_readFactB_b51 T rc k0 x1 x2 S) (fun q0 => q0.2.1 a b = S0.1 a b) := by
  unfold fX6_readFactB_b51
  refine zwl_i ?_ ?_
  · refine zwl_b (wI_X6_next h0 h1 h2 h3 hS) (fun r1 S6 e2 => ?_)
    refine zwl_i ?_ ?_
    · refine zwl_b (hrc _ _ _ e2) (fun r3 S10 e4 => ?_)
      refine zwl_b (wI_X6_expect h0 h1 h2 h3 h7 e4) (fun r5 S13 e6 => ?_)
      exact (wI_X6_readFactB_b104 hrc h0 h1 h2 h3 h4 h5 h6 h7 h8 e6)
    · refine zwl_b (hrc _ _ _ e2) (fun r7 S16 e8 => ?_)
      refine zwl_b (wI_X2_add h4 h5 h6 e8) (fun r9 S19 e10 => ?_)
      exact (wI_X6_readFactB_b104 hrc h0 h1 h2 h3 h4 h5 h6 h7 h8 e10)
  · refine zwl_b (wI_X6_fail h7 hS) (fun r11 S22 e12 => ?_)
    exact zwl_r e12
set_option maxHeartbeats 40000 in
set_option maxRecDepth 100000 in
theorem wI_X6_readFactB_b14 {T : zT} {rc : Nat → zT → Nat → Int32 → zS → Option (Unit × zS)} {k0 : Nat} {x1 : Int32} {s0 : Int32} {S S0 : zS} {a b : Nat} (hrc : ∀ (w : Nat) (x : Int32) (S : zS), S.1 a b = S0.1 a b → zwl (rc w T k0 x S) (fun q0 => q0.2.1 a b = S0.1 a b)) (h0 : ¬ (a = k0 ∧ b = 1)) (h1 : ¬ (a = k0 ∧ b = 2)) (h2 : ¬ (a = k0 ∧ b = 3)) (h3 : ¬ (a = k0 ∧ b = 4)) (h4 : ¬ (a = zr T k0 9 ∧ b = 2)) (h5 : ¬ a = zr T (zr T k0 9) 0) (h6 : ¬ (a = zr T k0 9 ∧ b = 1)) (h7 : ¬ (a = k0 ∧ b = 5)) (h8 : ¬ (a = k0 ∧ b = 6)) (hS : S.1 a b = S0.1 a b) : zwl (fX6_readFactB_b14 T rc k0 x1 s0 S) (fun q0 => q0.2.1 a b = S0.1 a b) := by
  unfold fX6_readFactB_b14
  refine zwl_i ?_ ?_
  · refine zwl_i ?_ ?_
    · exact (wI_X6_readFactB_b51 hrc h0 h1 h2 h3 h4 h5 h6 h7 h8 hS)
    · refine zwl_b (wI_X6_readSum h7 h8 h4 h5 h6 h0 h1 h2 h3 hS) (fun r1 S26 e2 => ?_)
      refine zwl_b (wI_X6_readSign h7 h8 h0 h1 h2 h3 e2) (fun r27 S29 e3 => ?_)
      refine zwl_b (wI_X6_readSum h7 h8 h4 h5 h6 h0 h1 h2 h3 e3) (fun r4 S32 e5 => ?_)
      refine zwl_b (wI_X2_add h4 h5 h6 e5) (fun r6 S35 e7 => ?_)
      exact zwl_r e7
  · exact (wI_X6_readFactB_b51 hrc h0 h1 h2 h3 h4 h5 h6 h7 h8 hS)
set_option maxHeartbeats 40000 in
set_option maxRecDepth 100000 in
theorem wI_X6_readFactB {T : zT} {rc : Nat → zT → Nat → Int32 → zS → Option (Unit × zS)} {k0 : Nat} {x1 : Int32} {S S0 : zS} {a b : Nat} (hrc : ∀ (w : Nat) (x : Int32) (S : zS), S.1 a b = S0.1 a b → zwl (rc w T k0 x S) (fun q0 => q0.2.1 a b = S0.1 a b)) (h0 : ¬ (a = k0 ∧ b = 1)) (h1 : ¬ (a = k0 ∧ b = 2)) (h2 : ¬ (a = k0 ∧ b = 3)) (h3 : ¬ (a = k0 ∧ b = 4)) (h4 : ¬ (a = zr T k0 9 ∧ b = 2)) (h5 : ¬ a = zr T (zr T k0 9) 0) (h6 : ¬ (a = zr T k0 9 ∧ b = 1)) (h7 : ¬ (a = k0 ∧ b = 5)) (h8 : ¬ (a = k0 ∧ b = 6)) (hS : S.1 a b = S0.1 a b) : zwl (fX6_readFactB T rc k0 x1 S) (fun q0 => q0.2.1 a b = S0.1 a b) := by
  unfold fX6_readFactB
  refine zwl_i ?_ ?_
  · exact (wI_X6_readFactB_b14 hrc h0 h1 h2 h3 h4 h5 h6 h7 h8 hS)
  · exact (wI_X6_readFactB_b14 hrc h0 h1 h2 h3 h4 h5 h6 h7 h8 hS)
set_option maxHeartbeats 40000 in
set_option maxRecDepth 100000 in
theorem wI_X6_readIf_b15 {T : zT} {S S0 : zS} {a b : Nat}  (hS : S.1 a b = S0.1 a b) : zwl (fX6_readIf_b15 T S) (fun q0 => q0.2.1 a b = S0.1 a b) := by
  unfold fX6_readIf_b15
  exact zwl_r hS
theorem wI_X6_rec {T : zT} {k0 : Nat} {S0 : zS} {a b : Nat} (h0 : ¬ (a = k0 ∧ b = 1)) (h1 : ¬ (a = k0 ∧ b = 2)) (h2 : ¬ (a = k0 ∧ b = 3)) (h3 : ¬ (a = k0 ∧ b = 4)) (h4 : ¬ (a = zr T k0 9 ∧ b = 2)) (h5 : ¬ a = zr T (zr T k0 9) 0) (h6 : ¬ (a = zr T k0 9 ∧ b = 1)) (h7 : ¬ (a = k0 ∧ b = 5)) (h8 : ¬ (a = k0 ∧ b = 6)) : ∀ (n w : Nat) (x : Int32) (S : zS), S.1 a b = S0.1 a b → zwl (fX6_rec n w T k0 x S) (fun q0 => q0.2.1 a b = S0.1 a b) := by
  intro n
  induction n with
  | zero => intro w x S hS b e; cases e
  | succ n ih =>
    intro w x S hS
    unfold fX6_rec
    exact zwl_i (wI_X6_readFactB (rc := fX6_rec n) (fun w x S hS => ih w x S hS) h0 h1 h2 h3 h4 h5 h6 h7 h8 hS) (wI_X6_readTestB (rc := fX6_rec n) (fun w x S hS => ih w x S hS) h0 h1 h2 h3 h4 h5 h6 h7 h8 hS)
theorem wI_X6_readTest {T : zT} {k0 : Nat} {x1 : Int32} {S S0 : zS} {a b : Nat} (h0 : ¬ (a = k0 ∧ b = 1)) (h1 : ¬ (a = k0 ∧ b = 2)) (h2 : ¬ (a = k0 ∧ b = 3)) (h3 : ¬ (a = k0 ∧ b = 4)) (h4 : ¬ (a = zr T k0 9 ∧ b = 2)) (h5 : ¬ a = zr T (zr T k0 9) 0) (h6 : ¬ (a = zr T k0 9 ∧ b = 1)) (h7 : ¬ (a = k0 ∧ b = 5)) (h8 : ¬ (a = k0 ∧ b = 6)) (hS : S.1 a b = S0.1 a b) : zwl (fX6_readTest T k0 x1 S) (fun q0 => q0.2.1 a b = S0.1 a b) := wI_X6_rec h0 h1 h2 h3 h4 h5 h6 h7 h8 40 1 x1 S hS
theorem wI_X6_readFact {T : zT} {k0 : Nat} {x1 : Int32} {S S0 : zS} {a b : Nat} (h0 : ¬ (a = k0 ∧ b = 1)) (h1 : ¬ (a = k0 ∧ b = 2)) (h2 : ¬ (a = k0 ∧ b = 3)) (h3 : ¬ (a = k0 ∧ b = 4)) (h4 : ¬ (a = zr T k0 9 ∧ b = 2)) (h5 : ¬ a = zr T (zr T k0 9) 0) (h6 : ¬ (a = zr T k0 9 ∧ b = 1)) (h7 : ¬ (a = k0 ∧ b = 5)) (h8 : ¬ (a = k0 ∧ b = 6)) (hS : S.1 a b = S0.1 a b) : zwl (fX6_readFact T k0 x1 S) (fun q0 => q0.2.1 a b = S0.1 a b) := wI_X6_rec h0 h1 h2 h3 h4 h5 h6 h7 h8 40 0 x1 S hS

set_option maxHeartbeats 40000 in
set_option maxRecDepth 100000 in
theorem wI_X6_readIf {T : zT} {k0 : Nat} {S S0 : zS} {a b : Nat} (h0 : ¬ (a = k0 ∧ b = 1)) (h1 : ¬ (a = k0 ∧ b = 2)) (h2 : ¬ (a = k0 ∧ b = 3)) (h3 : ¬ (a = k0 ∧ b = 4)) (h4 : ¬ (a = zr T k0 9 ∧ b = 2)) (h5 : ¬ a = zr T (zr T k0 9) 0) (h6 : ¬ (a = zr T k0 9 ∧ b = 1)) (h7 : ¬ (a = k0 ∧ b = 5)) (h8 : ¬ (a = k0 ∧ b = 6)) (hS : S.1 a b = S0.1 a b) : zwl (fX6_readIf T k0 S) (fun q0 => q0.2.1 a b = S0.1 a b) := by
  unfold fX6_readIf
  refine zwl_i ?_ ?_
  · refine zwl_i ?_ ?_
    · refine zwl_b (wI_X6_next h0 h1 h2 h3 hS) (fun r1 S5 e2 => ?_)
      refine zwl_v (fun u6 => ?_)
      refine zwl_b (wI_X6_readTest h0 h1 h2 h3 h4 h5 h6 h7 h8 e2) (fun r3 S9 e4 => ?_)
      refine zwl_b (wI_X2_add h4 h5 h6 e4) (fun r5 S12 e6 => ?_)
      exact zwl_r e6
    · exact (wI_X6_readIf_b15  hS)
  · exact (wI_X6_readIf_b15  hS)
set_option maxHeartbeats 40000 in
set_option maxRecDepth 100000 in
theorem wI_X6_readSet_l4 {T : zT} {k0 : Nat} {k1 : Nat} {x2 : Int32} {x3 : Int32} {S S0 : zS} {a b : Nat} (h0 : ¬ (a = k0 ∧ b = 1)) (h1 : ¬ (a = k0 ∧ b = 2)) (h2 : ¬ (a = k0 ∧ b = 3)) (h3 : ¬ (a = k0 ∧ b = 4)) (hS : S.1 a b = S0.1 a b) : zwl (fX6_readSet_l4 T k0 k1 x2 x3 S) (Sum.elim (fun q1 => q1.2.2.1 a b = S0.1 a b) (Sum.elim (fun q2 => q2.2.1 a b = S0.1 a b) (fun q2 => q2.1 a b = S0.1 a b))) := by
  unfold fX6_readSet_l4
  refine zwl_i ?_ ?_
  · exact zwl_r hS
  · refine zwl_i ?_ ?_
    · refine zwl_i ?_ ?_
      · refine zwl_v (fun u4 => ?_)
        refine zwl_t (fun r5 => ?_)
        refine zwl_i ?_ ?_
        · exact zwl_r hS
        · refine zwl_i ?_ ?_
          · refine zwl_v (fun u9 => ?_)
            refine zwl_b (wI_X6_next h0 h1 h2 h3 hS) (fun r1 S12 e2 => ?_)
            refine zwl_v (fun u13 => ?_)
            exact zwl_r e2
          · exact zwl_r hS
      · exact zwl_r hS
    · exact zwl_r hS
set_option maxHeartbeats 40000 in
set_option maxRecDepth 100000 in
theorem wI_X6_readSet_b74 {T : zT} {k0 : Nat} {k1 : Nat} {x2 : Int32} {S S0 : zS} {a b : Nat} (h0 : ¬ (a = k0 ∧ b = 5)) (h1 : ¬ (a = k0 ∧ b = 1)) (h2 : ¬ (a = k0 ∧ b = 2)) (h3 : ¬ (a = k0 ∧ b = 3)) (h4 : ¬ (a = k0 ∧ b = 4)) (h5 : ¬ (a = zr T k0 9 ∧ b = 2)) (h6 : ¬ a = zr T (zr T k0 9) 0) (h7 : ¬ (a = zr T k0 9 ∧ b = 1)) (h8 : ¬ (a = k0 ∧ b = 6)) (h9 : ¬ a = zr T (zr T k1 12) 0) (h10 : ¬ a = zr T (zr T k1 12) 1) (h11 : ¬ a = zr T (zr T k1 12) 2) (h12 : ¬ (a = zr T k1 12 ∧ b = 3)) (hS : S.1 a b = S0.1 a b) : zwl (fX6_readSet_b74 T k0 k1 x2 S) (fun q0 => q0.2.1 a b = S0.1 a b) := by
  unfold fX6_readSet_b74
  refine zwl_i ?_ ?_
  · refine zwl_b (wI_X6_fail h0 hS) (fun r1 S30 e2 => ?_)
    exact zwl_r e2
  · refine zwl_b (wI_X6_expect h1 h2 h3 h4 h0 hS) (fun r3 S18 e4 => ?_)
    refine zwl_b (wI_X6_number h0 h1 h2 h3 h4 e4) (fun r19 S21 e5 => ?_)
    refine zwl_b (wI_X6_readIf h1 h2 h3 h4 h5 h6 h7 h0 h8 e5) (fun r22 S24 e6 => ?_)
    refine zwl_b (wI_X1_add h9 h10 h11 h12 e6) (fun r7 S27 e8 => ?_)
    exact zwl_r e8
set_option maxHeartbeats 40000 in
set_option maxRecDepth 100000 in
theorem wI_X6_readSet_b51 {T : zT} {k0 : Nat} {S S0 : zS} {a b : Nat} (h0 : ¬ (a = k0 ∧ b = 5)) (hS : S.1 a b = S0.1 a b) : zwl (fX6_readSet_b51 T k0 S) (fun q0 => q0.2.1 a b = S0.1 a b) := by
  unfold fX6_readSet_b51
  refine zwl_b (wI_X6_fail h0 hS) (fun r1 S33 e2 => ?_)
  exact zwl_r e2
set_option maxHeartbeats 40000 in
set_option maxRecDepth 100000 in
theorem wI_X6_readSet {T : zT} {k0 : Nat} {k1 : Nat} {S S0 : zS} {a b : Nat} (h0 : ¬ (a = k0 ∧ b = 1)) (h1 : ¬ (a = k0 ∧ b = 2)) (h2 : ¬ (a = k0 ∧ b = 3)) (h3 : ¬ (a = k0 ∧ b = 4)) (h4 : ¬ (a = k0 ∧ b = 5)) (h5 : ¬ (a = zr T k0 9 ∧ b = 2)) (h6 : ¬ a = zr T (zr T k0 9) 0) (h7 : ¬ (a = zr T k0 9 ∧ b = 1)) (h8 : ¬ (a = k0 ∧ b = 6)) (h9 : ¬ a = zr T (zr T k1 12) 0) (h10 : ¬ a = zr T (zr T k1 12) 1) (h11 : ¬ a = zr T (zr T k1 12) 2) (h12 : ¬ (a = zr T k1 12 ∧ b = 3)) (hS : S.1 a b = S0.1 a b) : zwl (fX6_readSet T k0 k1 S) (fun q0 => q0.2.1 a b = S0.1 a b) := by
  unfold fX6_readSet
  refine zwl_b1 (zwl_lp (I := (fun q0 => q0.2.2.1 a b = S0.1 a b)) (Q := (Sum.elim (fun q1 => q1.2.1 a b = S0.1 a b) (fun q1 => q1.1 a b = S0.1 a b))) (fun a e3 => (wI_X6_readSet_l4 h0 h1 h2 h3 e3)) hS) (fun e14 e1 => ?_)
  refine zwl_m e1 (fun e14_0 e4 => ?_) (fun e14_1 e5 => ?_)
  · exact (wI_X6_readSet_b74 h4 h0 h1 h2 h3 h5 h6 h7 h8 h9 h10 h11 h12 e4)
  · exact (wI_X6_readSet_b51 h4 e5)
set_option maxHeartbeats 40000 in
set_option maxRecDepth 100000 in
theorem wI_X6_readNeed {T : zT} {k0 : Nat} {k1 : Nat} {S S0 : zS} {a b : Nat} (h0 : ¬ (a = k0 ∧ b = 5)) (h1 : ¬ (a = k0 ∧ b = 1)) (h2 : ¬ (a = k0 ∧ b = 2)) (h3 : ¬ (a = k0 ∧ b = 3)) (h4 : ¬ (a = k0 ∧ b = 4)) (h5 : ¬ (a = zr T k0 9 ∧ b = 2)) (h6 : ¬ a = zr T (zr T k0 9) 0) (h7 : ¬ (a = zr T k0 9 ∧ b = 1)) (h8 : ¬ (a = k0 ∧ b = 6)) (h9 : ¬ a = zr T (zr T k1 13) 0) (h10 : ¬ a = zr T (zr T k1 13) 1) (h11 : ¬ a = zr T (zr T k1 13) 2) (h12 : ¬ (a = zr T k1 13 ∧ b = 3)) (hS : S.1 a b = S0.1 a b) : zwl (fX6_readNeed T k0 k1 S) (fun q0 => q0.2.1 a b = S0.1 a b) := by
  unfold fX6_readNeed
  refine zwl_b (wI_X6_number h0 h1 h2 h3 h4 hS) (fun r1 S3 e1 => ?_)
  refine zwl_b (wI_X6_readIf h1 h2 h3 h4 h5 h6 h7 h0 h8 e1) (fun r4 S6 e2 => ?_)
  refine zwl_b (wI_X1_add h9 h10 h11 h12 e2) (fun r3 S9 e4 => ?_)
  exact zwl_r e4
set_option maxHeartbeats 40000 in
set_option maxRecDepth 100000 in
theorem wI_X6_readLike {T : zT} {k0 : Nat} {k1 : Nat} {S S0 : zS} {a b : Nat} (h0 : ¬ (a = k0 ∧ b = 5)) (h1 : ¬ (a = k0 ∧ b = 6)) (h2 : ¬ (a = zr T k0 9 ∧ b = 2)) (h3 : ¬ a = zr T (zr T k0 9) 0) (h4 : ¬ (a = zr T k0 9 ∧ b = 1)) (h5 : ¬ (a = k0 ∧ b = 1)) (h6 : ¬ (a = k0 ∧ b = 2)) (h7 : ¬ (a = k0 ∧ b = 3)) (h8 : ¬ (a = k0 ∧ b = 4)) (h9 : ¬ a = zr T k1 0) (h10 : ¬ a = zr T k1 1) (h11 : ¬ (a = k1 ∧ b = 2)) (hS : S.1 a b = S0.1 a b) : zwl (fX6_readLike T k0 k1 S) (fun q0 => q0.2.1 a b = S0.1 a b) := by
  unfold fX6_readLike
  refine zwl_v (fun u1 => ?_)
  refine zwl_b (wI_X6_readSum h0 h1 h2 h3 h4 h5 h6 h7 h8 hS) (fun r1 S4 e2 => ?_)
  refine zwl_b (wI_X2_add h2 h3 h4 e2) (fun r3 S7 e4 => ?_)
  refine zwl_b (wI_X6_readIf h5 h6 h7 h8 h2 h3 h4 h0 h1 e4) (fun r8 S10 e5 => ?_)
  refine zwl_b (wI_X8_add h9 h10 h11 e5) (fun r6 S13 e7 => ?_)
  exact zwl_r e7
set_option maxHeartbeats 40000 in
set_option maxRecDepth 100000 in
theorem wI_X6_readBook_b184 {T : zT} {k0 : Nat} {k3 : Nat} {x4 : Int32} {S S0 : zS} {a b : Nat} (h0 : ¬ (a = k0 ∧ b = 1)) (h1 : ¬ (a = k0 ∧ b = 2)) (h2 : ¬ (a = k0 ∧ b = 3)) (h3 : ¬ (a = k0 ∧ b = 4)) (h4 : ¬ (a = k0 ∧ b = 5)) (hS : S.1 a b = S0.1 a b) : zwl (fX6_readBook_b184 T k0 k3 x4 S) (Sum.elim (fun q1 => q1.2.1 a b = S0.1 a b) (Sum.elim (fun q2 => q2.1 a b = S0.1 a b) (fun q2 => q2.1 a b = S0.1 a b))) := by
  unfold fX6_readBook_b184
  refine zwl_b (wI_X6_isAtEnd h0 h1 h2 h3 h4 hS) (fun r17 S19 e1 => ?_)
  refine zwl_i ?_ ?_
  · refine zwl_v (fun u21 => ?_)
    exact zwl_r e1
  · exact zwl_r e1
set_option maxHeartbeats 40000 in
set_option maxRecDepth 100000 in
theorem wI_X6_readBook_b45 {T : zT} {k0 : Nat} {k3 : Nat} {x4 : Int32} {s0 : Int32} {s1 : Nat} {S S0 : zS} {a b : Nat} (h0 : ¬ (a = s1 ∧ b = 5)) (h1 : ¬ (a = s1 ∧ b = 1)) (h2 : ¬ (a = s1 ∧ b = 2)) (h3 : ¬ (a = s1 ∧ b = 3)) (h4 : ¬ (a = s1 ∧ b = 4)) (h5 : ¬ (a = s1 ∧ b = 7)) (h6 : ¬ (a = k0 ∧ b = 1)) (h7 : ¬ (a = k0 ∧ b = 2)) (h8 : ¬ (a = k0 ∧ b = 3)) (h9 : ¬ (a = k0 ∧ b = 4)) (h10 : ¬ (a = k3 ∧ b = 0)) (h11 : ¬ (a = k0 ∧ b = 5)) (h12 : ¬ a = zr T k3 6) (h13 : ¬ a = zr T k3 7) (h14 : ¬ a = zr T k3 8) (h15 : ¬ a = zr T k3 9) (h16 : ¬ a = zr T k3 10) (h17 : ¬ a = zr T k3 11) (h18 : ¬ (a = zr T k0 9 ∧ b = 2)) (h19 : ¬ a = zr T (zr T k0 9) 0) (h20 : ¬ (a = zr T k0 9 ∧ b = 1)) (h21 : ¬ (a = k0 ∧ b = 6)) (h22 : ¬ a = zr T (zr T k3 12) 0) (h23 : ¬ a = zr T (zr T k3 12) 1) (h24 : ¬ a = zr T (zr T k3 12) 2) (h25 : ¬ (a = zr T k3 12 ∧ b = 3)) (h26 : ¬ a = zr T (zr T k3 13) 0) (h27 : ¬ a = zr T (zr T k3 13) 1) (h28 : ¬ a = zr T (zr T k3 13) 2) (h29 : ¬ (a = zr T k3 13 ∧ b = 3)) (h30 : ¬ (a = k3 ∧ b = 3)) (h31 : ¬ (a = k3 ∧ b = 4)) (h32 : ¬ (a = k3 ∧ b = 5)) (h33 : ¬ (a = k3 ∧ b = 2)) (h34 : ¬ (a = k3 ∧ b = 1)) (hS : S.1 a b = S0.1 a b) : zwl (fX6_readBook_b45 T k0 k3 x4 s0 s1 S) (Sum.elim (fun q1 => q1.2.1 a b = S0.1 a b) (Sum.elim (fun q2 => q2.1 a b = S0.1 a b) (fun q2 => q2.1 a b = S0.1 a b))) := by
  unfold fX6_readBook_b45
  refine zwl_b (wI_X6_startClause h0 h1 h2 h3 h4 h5 hS) (fun r10 S12 e1 => ?_)
  refine zwl_i ?_ ?_
  · refine zwl_b (wI_X6_readThing h6 h7 h8 h9 h10 h11 h12 h13 h14 h15 h16 h17 e1) (fun r2 S16 e3 => ?_)
    exact (wI_X6_readBook_b184 h6 h7 h8 h9 h11 e3)
  · refine zwl_i ?_ ?_
    · refine zwl_b (wI_X6_readSet h6 h7 h8 h9 h11 h18 h19 h20 h21 h22 h23 h24 h25 e1) (fun r4 S25 e5 => ?_)
      exact (wI_X6_readBook_b184 h6 h7 h8 h9 h11 e5)
    · refine zwl_i ?_ ?_
      · exact (wI_X6_readBook_b184 h6 h7 h8 h9 h11 e1)
      · refine zwl_i ?_ ?_
        · exact (wI_X6_readBook_b184 h6 h7 h8 h9 h11 e1)
        · refine zwl_i ?_ ?_
          · refine zwl_b (wI_X6_readNeed h11 h6 h7 h8 h9 h18 h19 h20 h21 h26 h27 h28 h29 e1) (fun r6 S31 e7 => ?_)
            exact (wI_X6_readBook_b184 h6 h7 h8 h9 h11 e7)
          · refine zwl_i ?_ ?_
            · refine zwl_b (wI_X6_number h11 h6 h7 h8 h9 e1) (fun r33 S35 e8 => ?_)
              refine zwl_sIf h30 e8 (fun S36 e9 => ?_)
              exact (wI_X6_readBook_b184 h6 h7 h8 h9 h11 e9)
            · refine zwl_i ?_ ?_
              · refine zwl_b (wI_X6_readCousin h11 h6 h7 h8 h9 h31 h32 e1) (fun r10 S40 e11 => ?_)
                exact (wI_X6_readBook_b184 h6 h7 h8 h9 h11 e11)
              · refine zwl_i ?_ ?_
                · exact (wI_X6_readBook_b184 h6 h7 h8 h9 h11 e1)
                · refine zwl_i ?_ ?_
                  · refine zwl_b (wI_X6_number h11 h6 h7 h8 h9 e1) (fun r43 S45 e12 => ?_)
                    refine zwl_sIf h33 e12 (fun S46 e13 => ?_)
                    exact (wI_X6_readBook_b184 h6 h7 h8 h9 h11 e13)
                  · refine zwl_i ?_ ?_
                    · refine zwl_b (wI_X6_number h11 h6 h7 h8 h9 e1) (fun r48 S50 e14 => ?_)
                      refine zwl_sIf h34 e14 (fun S51 e15 => ?_)
                      exact (wI_X6_readBook_b184 h6 h7 h8 h9 h11 e15)
                    · exact (wI_X6_readBook_b184 h6 h7 h8 h9 h11 e1)
set_option maxHeartbeats 40000 in
set_option maxRecDepth 100000 in
theorem wI_X6_readBook_l18 {T : zT} {k0 : Nat} {k3 : Nat} {x4 : Int32} {S S0 : zS} {a b : Nat} (h0 : ¬ (a = k0 ∧ b = 5)) (h1 : ¬ (a = k0 ∧ b = 1)) (h2 : ¬ (a = k0 ∧ b = 2)) (h3 : ¬ (a = k0 ∧ b = 3)) (h4 : ¬ (a = k0 ∧ b = 4)) (h5 : ¬ (a = k0 ∧ b = 7)) (h6 : ¬ (a = k3 ∧ b = 0)) (h7 : ¬ a = zr T k3 6) (h8 : ¬ a = zr T k3 7) (h9 : ¬ a = zr T k3 8) (h10 : ¬ a = zr T k3 9) (h11 : ¬ a = zr T k3 10) (h12 : ¬ a = zr T k3 11) (h13 : ¬ (a = zr T k0 9 ∧ b = 2)) (h14 : ¬ a = zr T (zr T k0 9) 0) (h15 : ¬ (a = zr T k0 9 ∧ b = 1)) (h16 : ¬ (a = k0 ∧ b = 6)) (h17 : ¬ a = zr T (zr T k3 12) 0) (h18 : ¬ a = zr T (zr T k3 12) 1) (h19 : ¬ a = zr T (zr T k3 12) 2) (h20 : ¬ (a = zr T k3 12 ∧ b = 3)) (h21 : ¬ a = zr T (zr T k3 13) 0) (h22 : ¬ a = zr T (zr T k3 13) 1) (h23 : ¬ a = zr T (zr T k3 13) 2) (h24 : ¬ (a = zr T k3 13 ∧ b = 3)) (h25 : ¬ (a = k3 ∧ b = 3)) (h26 : ¬ (a = k3 ∧ b = 4)) (h27 : ¬ (a = k3 ∧ b = 5)) (h28 : ¬ (a = k3 ∧ b = 2)) (h29 : ¬ (a = k3 ∧ b = 1)) (hS : S.1 a b = S0.1 a b) : zwl (fX6_readBook_l18 T k0 k3 x4 S) (Sum.elim (fun q1 => q1.2.1 a b = S0.1 a b) (Sum.elim (fun q2 => q2.1 a b = S0.1 a b) (fun q2 => q2.1 a b = S0.1 a b))) := by
  unfold fX6_readBook_l18
  refine zwl_i ?_ ?_
  · exact zwl_r hS
  · refine zwl_i ?_ ?_
    · refine zwl_i ?_ ?_
      · exact (wI_X6_readBook_b45 h0 h1 h2 h3 h4 h5 h1 h2 h3 h4 h6 h0 h7 h8 h9 h10 h11 h12 h13 h14 h15 h16 h17 h18 h19 h20 h21 h22 h23 h24 h25 h26 h27 h28 h29 hS)
      · exact (wI_X6_readBook_b45 h0 h1 h2 h3 h4 h5 h1 h2 h3 h4 h6 h0 h7 h8 h9 h10 h11 h12 h13 h14 h15 h16 h17 h18 h19 h20 h21 h22 h23 h24 h25 h26 h27 h28 h29 hS)
    · exact zwl_r hS
set_option maxHeartbeats 40000 in
set_option maxRecDepth 100000 in
theorem wI_X6_readBook_b200 {T : zT} {k0 : Nat} {S S0 : zS} {a b : Nat}  (hS : S.1 a b = S0.1 a b) : zwl (fX6_readBook_b200 T k0 S) (fun q0 => q0.2.1 a b = S0.1 a b) := by
  unfold fX6_readBook_b200
  exact zwl_r hS
set_option maxHeartbeats 40000 in
set_option maxRecDepth 100000 in
theorem wI_X6_readBook_b15 {T : zT} {k0 : Nat} {k3 : Nat} {S S0 : zS} {a b : Nat} (h0 : ¬ (a = k0 ∧ b = 5)) (h1 : ¬ (a = k0 ∧ b = 1)) (h2 : ¬ (a = k0 ∧ b = 2)) (h3 : ¬ (a = k0 ∧ b = 3)) (h4 : ¬ (a = k0 ∧ b = 4)) (h5 : ¬ (a = k0 ∧ b = 7)) (h6 : ¬ (a = k3 ∧ b = 0)) (h7 : ¬ a = zr T k3 6) (h8 : ¬ a = zr T k3 7) (h9 : ¬ a = zr T k3 8) (h10 : ¬ a = zr T k3 9) (h11 : ¬ a = zr T k3 10) (h12 : ¬ a = zr T k3 11) (h13 : ¬ (a = zr T k0 9 ∧ b = 2)) (h14 : ¬ a = zr T (zr T k0 9) 0) (h15 : ¬ (a = zr T k0 9 ∧ b = 1)) (h16 : ¬ (a = k0 ∧ b = 6)) (h17 : ¬ a = zr T (zr T k3 12) 0) (h18 : ¬ a = zr T (zr T k3 12) 1) (h19 : ¬ a = zr T (zr T k3 12) 2) (h20 : ¬ (a = zr T k3 12 ∧ b = 3)) (h21 : ¬ a = zr T (zr T k3 13) 0) (h22 : ¬ a = zr T (zr T k3 13) 1) (h23 : ¬ a = zr T (zr T k3 13) 2) (h24 : ¬ (a = zr T k3 13 ∧ b = 3)) (h25 : ¬ (a = k3 ∧ b = 3)) (h26 : ¬ (a = k3 ∧ b = 4)) (h27 : ¬ (a = k3 ∧ b = 5)) (h28 : ¬ (a = k3 ∧ b = 2)) (h29 : ¬ (a = k3 ∧ b = 1)) (hS : S.1 a b = S0.1 a b) : zwl (fX6_readBook_b15 T k0 k3 S) (fun q0 => q0.2.1 a b = S0.1 a b) := by
  unfold fX6_readBook_b15
  refine zwl_b1 (zwl_lp (I := (fun q0 => q0.2.1 a b = S0.1 a b)) (Q := (Sum.elim (fun q1 => q1.1 a b = S0.1 a b) (fun q1 => q1.1 a b = S0.1 a b))) (fun a e3 => (wI_X6_readBook_l18 h0 h1 h2 h3 h4 h5 h6 h7 h8 h9 h10 h11 h12 h13 h14 h15 h16 h17 h18 h19 h20 h21 h22 h23 h24 h25 h26 h27 h28 h29 e3)) hS) (fun e52 e1 => ?_)
  refine zwl_m e1 (fun e52_0 e4 => ?_) (fun e52_1 e5 => ?_)
  · exact (wI_X6_readBook_b200  e4)
  · exact (wI_X6_readBook_b200  e5)
set_option maxHeartbeats 40000 in
set_option maxRecDepth 100000 in
theorem wI_X6_readBook {T : zT} {k0 : Nat} {k1 : Nat} {n1 : Nat} {x2 : Int32} {k3 : Nat} {S S0 : zS} {a b : Nat} (h0 : ¬ (a = k3 ∧ b = 0)) (h1 : ¬ (a = k3 ∧ b = 1)) (h2 : ¬ (a = k3 ∧ b = 2)) (h3 : ¬ (a = k3 ∧ b = 3)) (h4 : ¬ (a = k3 ∧ b = 4)) (h5 : ¬ (a = k3 ∧ b = 5)) (h6 : ¬ (a = zr T k3 12 ∧ b = 3)) (h7 : ¬ (a = zr T k3 13 ∧ b = 3)) (h8 : ¬ (a = zr T k3 14 ∧ b = 1)) (h9 : ¬ (a = zr T k3 14 ∧ b = 2)) (h10 : ¬ (a = zr T k0 0 ∧ b = 3)) (h11 : ¬ a = zr T (zr T k0 0) 0) (h12 : ¬ a = zr T (zr T k0 0) 1) (h13 : ¬ a = zr T (zr T k0 0) 2) (h14 : ¬ (a = k0 ∧ b = 1)) (h15 : ¬ (a = k0 ∧ b = 2)) (h16 : ¬ (a = k0 ∧ b = 3)) (h17 : ¬ (a = k0 ∧ b = 4)) (h18 : ¬ (a = k0 ∧ b = 5)) (h19 : ¬ (a = k0 ∧ b = 6)) (h20 : ¬ (a = k0 ∧ b = 7)) (h21 : ¬ (a = k0 ∧ b = 8)) (h22 : ¬ a = zr (zQ T k0 9 (zr T k3 14)) k3 6) (h23 : ¬ a = zr (zQ T k0 9 (zr T k3 14)) k3 7) (h24 : ¬ a = zr (zQ T k0 9 (zr T k3 14)) k3 8) (h25 : ¬ a = zr (zQ T k0 9 (zr T k3 14)) k3 9) (h26 : ¬ a = zr (zQ T k0 9 (zr T k3 14)) k3 10) (h27 : ¬ a = zr (zQ T k0 9 (zr T k3 14)) k3 11) (h28 : ¬ (a = zr (zQ T k0 9 (zr T k3 14)) k0 9 ∧ b = 2)) (h29 : ¬ a = zr (zQ T k0 9 (zr T k3 14)) (zr (zQ T k0 9 (zr T k3 14)) k0 9) 0) (h30 : ¬ (a = zr (zQ T k0 9 (zr T k3 14)) k0 9 ∧ b = 1)) (h31 : ¬ a = zr (zQ T k0 9 (zr T k3 14)) (zr (zQ T k0 9 (zr T k3 14)) k3 12) 0) (h32 : ¬ a = zr (zQ T k0 9 (zr T k3 14)) (zr (zQ T k0 9 (zr T k3 14)) k3 12) 1) (h33 : ¬ a = zr (zQ T k0 9 (zr T k3 14)) (zr (zQ T k0 9 (zr T k3 14)) k3 12) 2) (h34 : ¬ (a = zr (zQ T k0 9 (zr T k3 14)) k3 12 ∧ b = 3)) (h35 : ¬ a = zr (zQ T k0 9 (zr T k3 14)) (zr (zQ T k0 9 (zr T k3 14)) k3 13) 0) (h36 : ¬ a = zr (zQ T k0 9 (zr T k3 14)) (zr (zQ T k0 9 (zr T k3 14)) k3 13) 1) (h37 : ¬ a = zr (zQ T k0 9 (zr T k3 14)) (zr (zQ T k0 9 (zr T k3 14)) k3 13) 2) (h38 : ¬ (a = zr (zQ T k0 9 (zr T k3 14)) k3 13 ∧ b = 3)) (hS : S.1 a b = S0.1 a b) : zwl (fX6_readBook T k0 k1 n1 x2 k3 S) (fun q0 => q0.2.1 a b = S0.1 a b) := by
  unfold fX6_readBook
  refine zwl_b (wI_X0_clear h0 h1 h2 h3 h4 h5 h6 h7 h8 h9 hS) (fun r1 S3 e2 => ?_)
  refine zwl_b (wI_X6_open h10 h11 h12 h13 h14 h15 h16 h17 h18 h19 h20 h21 e2) (fun r3 S6 e4 => ?_)
  exact (wI_X6_readBook_b15 h18 h14 h15 h16 h17 h20 h0 h22 h23 h24 h25 h26 h27 h28 h29 h30 h19 h31 h32 h33 h34 h35 h36 h37 h38 h3 h4 h5 h2 h1 e4)
set_option maxHeartbeats 40000 in
set_option maxRecDepth 100000 in
theorem wI_X6_readRule_b84 {T : zT} {k0 : Nat} {k3 : Nat} {x4 : Int32} {S S0 : zS} {a b : Nat} (h0 : ¬ (a = k0 ∧ b = 1)) (h1 : ¬ (a = k0 ∧ b = 2)) (h2 : ¬ (a = k0 ∧ b = 3)) (h3 : ¬ (a = k0 ∧ b = 4)) (h4 : ¬ (a = k0 ∧ b = 5)) (hS : S.1 a b = S0.1 a b) : zwl (fX6_readRule_b84 T k0 k3 x4 S) (Sum.elim (fun q1 => q1.2.1 a b = S0.1 a b) (Sum.elim (fun q2 => q2.1 a b = S0.1 a b) (fun q2 => q2.1 a b = S0.1 a b))) := by
  unfold fX6_readRule_b84
  refine zwl_b (wI_X6_isAtEnd h0 h1 h2 h3 h4 hS) (fun r15 S17 e1 => ?_)
  refine zwl_i ?_ ?_
  · refine zwl_v (fun u19 => ?_)
    exact zwl_r e1
  · exact zwl_r e1
set_option maxHeartbeats 40000 in
set_option maxRecDepth 100000 in
theorem wI_X6_readRule_b45 {T : zT} {k0 : Nat} {k3 : Nat} {x4 : Int32} {s0 : Int32} {s1 : Nat} {S S0 : zS} {a b : Nat} (h0 : ¬ (a = s1 ∧ b = 5)) (h1 : ¬ (a = s1 ∧ b = 1)) (h2 : ¬ (a = s1 ∧ b = 2)) (h3 : ¬ (a = s1 ∧ b = 3)) (h4 : ¬ (a = s1 ∧ b = 4)) (h5 : ¬ (a = s1 ∧ b = 7)) (h6 : ¬ (a = k0 ∧ b = 5)) (h7 : ¬ (a = k0 ∧ b = 6)) (h8 : ¬ (a = zr T k0 9 ∧ b = 2)) (h9 : ¬ a = zr T (zr T k0 9) 0) (h10 : ¬ (a = zr T k0 9 ∧ b = 1)) (h11 : ¬ (a = k0 ∧ b = 1)) (h12 : ¬ (a = k0 ∧ b = 2)) (h13 : ¬ (a = k0 ∧ b = 3)) (h14 : ¬ (a = k0 ∧ b = 4)) (h15 : ¬ a = zr T k3 0) (h16 : ¬ a = zr T k3 1) (h17 : ¬ (a = k3 ∧ b = 2)) (h18 : ¬ (a = k3 ∧ b = 3)) (hS : S.1 a b = S0.1 a b) : zwl (fX6_readRule_b45 T k0 k3 x4 s0 s1 S) (Sum.elim (fun q1 => q1.2.1 a b = S0.1 a b) (Sum.elim (fun q2 => q2.1 a b = S0.1 a b) (fun q2 => q2.1 a b = S0.1 a b))) := by
  unfold fX6_readRule_b45
  refine zwl_b (wI_X6_startClause h0 h1 h2 h3 h4 h5 hS) (fun r10 S12 e1 => ?_)
  refine zwl_i ?_ ?_
  · refine zwl_b (wI_X6_readLike h6 h7 h8 h9 h10 h11 h12 h13 h14 h15 h16 h17 e1) (fun r2 S26 e3 => ?_)
    exact (wI_X6_readRule_b84 h11 h12 h13 h14 h6 e3)
  · refine zwl_i ?_ ?_
    · refine zwl_b (wI_X6_number h6 h11 h12 h13 h14 e1) (fun r20 S22 e4 => ?_)
      refine zwl_sIf h18 e4 (fun S23 e5 => ?_)
      exact (wI_X6_readRule_b84 h11 h12 h13 h14 h6 e5)
    · exact (wI_X6_readRule_b84 h11 h12 h13 h14 h6 e1)
set_option maxHeartbeats 40000 in
set_option maxRecDepth 100000 in
theorem wI_X6_readRule_l18 {T : zT} {k0 : Nat} {k3 : Nat} {x4 : Int32} {S S0 : zS} {a b : Nat} (h0 : ¬ (a = k0 ∧ b = 5)) (h1 : ¬ (a = k0 ∧ b = 1)) (h2 : ¬ (a = k0 ∧ b = 2)) (h3 : ¬ (a = k0 ∧ b = 3)) (h4 : ¬ (a = k0 ∧ b = 4)) (h5 : ¬ (a = k0 ∧ b = 7)) (h6 : ¬ (a = k0 ∧ b = 6)) (h7 : ¬ (a = zr T k0 9 ∧ b = 2)) (h8 : ¬ a = zr T (zr T k0 9) 0) (h9 : ¬ (a = zr T k0 9 ∧ b = 1)) (h10 : ¬ a = zr T k3 0) (h11 : ¬ a = zr T k3 1) (h12 : ¬ (a = k3 ∧ b = 2)) (h13 : ¬ (a = k3 ∧ b = 3)) (hS : S.1 a b = S0.1 a b) : zwl (fX6_readRule_l18 T k0 k3 x4 S) (Sum.elim (fun q1 => q1.2.1 a b = S0.1 a b) (Sum.elim (fun q2 => q2.1 a b = S0.1 a b) (fun q2 => q2.1 a b = S0.1 a b))) := by
  unfold fX6_readRule_l18
  refine zwl_i ?_ ?_
  · exact zwl_r hS
  · refine zwl_i ?_ ?_
    · refine zwl_i ?_ ?_
      · exact (wI_X6_readRule_b45 h0 h1 h2 h3 h4 h5 h0 h6 h7 h8 h9 h1 h2 h3 h4 h10 h11 h12 h13 hS)
      · exact (wI_X6_readRule_b45 h0 h1 h2 h3 h4 h5 h0 h6 h7 h8 h9 h1 h2 h3 h4 h10 h11 h12 h13 hS)
    · exact zwl_r hS
set_option maxHeartbeats 40000 in
set_option maxRecDepth 100000 in
theorem wI_X6_readRule_b100 {T : zT} {k0 : Nat} {S S0 : zS} {a b : Nat}  (hS : S.1 a b = S0.1 a b) : zwl (fX6_readRule_b100 T k0 S) (fun q0 => q0.2.1 a b = S0.1 a b) := by
  unfold fX6_readRule_b100
  exact zwl_r hS
set_option maxHeartbeats 40000 in
set_option maxRecDepth 100000 in
theorem wI_X6_readRule_b15 {T : zT} {k0 : Nat} {k3 : Nat} {S S0 : zS} {a b : Nat} (h0 : ¬ (a = k0 ∧ b = 5)) (h1 : ¬ (a = k0 ∧ b = 1)) (h2 : ¬ (a = k0 ∧ b = 2)) (h3 : ¬ (a = k0 ∧ b = 3)) (h4 : ¬ (a = k0 ∧ b = 4)) (h5 : ¬ (a = k0 ∧ b = 7)) (h6 : ¬ (a = k0 ∧ b = 6)) (h7 : ¬ (a = zr T k0 9 ∧ b = 2)) (h8 : ¬ a = zr T (zr T k0 9) 0) (h9 : ¬ (a = zr T k0 9 ∧ b = 1)) (h10 : ¬ a = zr T k3 0) (h11 : ¬ a = zr T k3 1) (h12 : ¬ (a = k3 ∧ b = 2)) (h13 : ¬ (a = k3 ∧ b = 3)) (hS : S.1 a b = S0.1 a b) : zwl (fX6_readRule_b15 T k0 k3 S) (fun q0 => q0.2.1 a b = S0.1 a b) := by
  unfold fX6_readRule_b15
  refine zwl_b1 (zwl_lp (I := (fun q0 => q0.2.1 a b = S0.1 a b)) (Q := (Sum.elim (fun q1 => q1.1 a b = S0.1 a b) (fun q1 => q1.1 a b = S0.1 a b))) (fun a e3 => (wI_X6_readRule_l18 h0 h1 h2 h3 h4 h5 h6 h7 h8 h9 h10 h11 h12 h13 e3)) hS) (fun e27 e1 => ?_)
  refine zwl_m e1 (fun e27_0 e4 => ?_) (fun e27_1 e5 => ?_)
  · exact (wI_X6_readRule_b100  e4)
  · exact (wI_X6_readRule_b100  e5)
set_option maxHeartbeats 40000 in
set_option maxRecDepth 100000 in
theorem wI_X6_readRule {T : zT} {k0 : Nat} {k1 : Nat} {n1 : Nat} {x2 : Int32} {k3 : Nat} {S S0 : zS} {a b : Nat} (h0 : ¬ (a = k3 ∧ b = 2)) (h1 : ¬ (a = k3 ∧ b = 3)) (h2 : ¬ (a = zr T k3 4 ∧ b = 1)) (h3 : ¬ (a = zr T k3 4 ∧ b = 2)) (h4 : ¬ (a = zr T k0 0 ∧ b = 3)) (h5 : ¬ a = zr T (zr T k0 0) 0) (h6 : ¬ a = zr T (zr T k0 0) 1) (h7 : ¬ a = zr T (zr T k0 0) 2) (h8 : ¬ (a = k0 ∧ b = 1)) (h9 : ¬ (a = k0 ∧ b = 2)) (h10 : ¬ (a = k0 ∧ b = 3)) (h11 : ¬ (a = k0 ∧ b = 4)) (h12 : ¬ (a = k0 ∧ b = 5)) (h13 : ¬ (a = k0 ∧ b = 6)) (h14 : ¬ (a = k0 ∧ b = 7)) (h15 : ¬ (a = k0 ∧ b = 8)) (h16 : ¬ (a = zr (zQ T k0 9 (zr T k3 4)) k0 9 ∧ b = 2)) (h17 : ¬ a = zr (zQ T k0 9 (zr T k3 4)) (zr (zQ T k0 9 (zr T k3 4)) k0 9) 0) (h18 : ¬ (a = zr (zQ T k0 9 (zr T k3 4)) k0 9 ∧ b = 1)) (h19 : ¬ a = zr (zQ T k0 9 (zr T k3 4)) k3 0) (h20 : ¬ a = zr (zQ T k0 9 (zr T k3 4)) k3 1) (hS : S.1 a b = S0.1 a b) : zwl (fX6_readRule T k0 k1 n1 x2 k3 S) (fun q0 => q0.2.1 a b = S0.1 a b) := by
  unfold fX6_readRule
  refine zwl_b (wI_X8_clear h0 h1 h2 h3 hS) (fun r1 S3 e2 => ?_)
  refine zwl_b (wI_X6_open h4 h5 h6 h7 h8 h9 h10 h11 h12 h13 h14 h15 e2) (fun r3 S6 e4 => ?_)
  exact (wI_X6_readRule_b15 h12 h8 h9 h10 h11 h14 h13 h16 h17 h18 h19 h20 h0 h1 e4)
set_option maxHeartbeats 40000 in
set_option maxRecDepth 100000 in
theorem wI_X11_book_b19 {T : zT} {k0 : Nat} {s0 : Int32} {S S0 : zS} {a b : Nat} (h0 : ¬ (a = k0 ∧ b = 1)) (h1 : ¬ (a = zr T k0 3 ∧ b = 0)) (h2 : ¬ (a = zr T k0 3 ∧ b = 1)) (h3 : ¬ (a = zr T k0 3 ∧ b = 2)) (h4 : ¬ (a = zr T k0 3 ∧ b = 3)) (h5 : ¬ (a = zr T k0 3 ∧ b = 4)) (h6 : ¬ (a = zr T k0 3 ∧ b = 5)) (h7 : ¬ a = zr T (zr T k0 3) 6) (h8 : ¬ a = zr T (zr T k0 3) 7) (h9 : ¬ a = zr T (zr T k0 3) 8) (h10 : ¬ a = zr T (zr T k0 3) 9) (h11 : ¬ a = zr T (zr T k0 3) 10) (h12 : ¬ a = zr T (zr T k0 3) 11) (h13 : ¬ a = zr T (zr T (zr T k0 3) 12) 0) (h14 : ¬ a = zr T (zr T (zr T k0 3) 12) 1) (h15 : ¬ a = zr T (zr T (zr T k0 3) 12) 2) (h16 : ¬ (a = zr T (zr T k0 3) 12 ∧ b = 3)) (h17 : ¬ a = zr T (zr T (zr T k0 3) 13) 0) (h18 : ¬ a = zr T (zr T (zr T k0 3) 13) 1) (h19 : ¬ a = zr T (zr T (zr T k0 3) 13) 2) (h20 : ¬ (a = zr T (zr T k0 3) 13 ∧ b = 3)) (h21 : ¬ a = zr T (zr T (zr T k0 3) 14) 0) (h22 : ¬ (a = zr T (zr T k0 3) 14 ∧ b = 1)) (h23 : ¬ (a = zr T (zr T k0 3) 14 ∧ b = 2)) (h24 : ¬ (a = zr T k0 5 ∧ b = 3)) (h25 : ¬ (a = zr T k0 13 ∧ b = 2)) (hS : S.1 a b = S0.1 a b) : zwl (fX11_book_b19 T k0 s0 S) (fun q0 => q0.2.1 a b = S0.1 a b) := by
  unfold fX11_book_b19
  refine zwl_sIf h0 hS (fun S4 e1 => ?_)
  refine zwl_i ?_ ?_
  · refine zwl_b (wI_X0_take h1 h2 h3 h4 h5 h6 h7 h8 h9 h10 h11 h12 h13 h14 h15 h16 h17 h18 h19 h20 h21 h22 h23 e1) (fun r2 S8 e3 => ?_)
    refine zwl_sIf h24 e3 (fun S9 e4 => ?_)
    refine zwl_sIf h25 e4 (fun S10 e5 => ?_)
    refine zwl_t (fun r11 => ?_)
    exact zwl_r e5
  · exact zwl_r e1
set_option maxHeartbeats 40000 in
set_option maxRecDepth 100000 in
theorem wI_X11_book {T : zT} {k0 : Nat} {S S0 : zS} {a b : Nat} (h0 : ¬ (a = zr T k0 4 ∧ b = 0)) (h1 : ¬ (a = zr T k0 4 ∧ b = 1)) (h2 : ¬ (a = zr T k0 4 ∧ b = 2)) (h3 : ¬ (a = zr T k0 4 ∧ b = 3)) (h4 : ¬ (a = zr T k0 4 ∧ b = 4)) (h5 : ¬ (a = zr T k0 4 ∧ b = 5)) (h6 : ¬ (a = zr T (zr T k0 4) 12 ∧ b = 3)) (h7 : ¬ (a = zr T (zr T k0 4) 13 ∧ b = 3)) (h8 : ¬ (a = zr T (zr T k0 4) 14 ∧ b = 1)) (h9 : ¬ (a = zr T (zr T k0 4) 14 ∧ b = 2)) (h10 : ¬ (a = zr T (zr T k0 2) 0 ∧ b = 3)) (h11 : ¬ a = zr T (zr T (zr T k0 2) 0) 0) (h12 : ¬ a = zr T (zr T (zr T k0 2) 0) 1) (h13 : ¬ a = zr T (zr T (zr T k0 2) 0) 2) (h14 : ¬ (a = zr T k0 2 ∧ b = 1)) (h15 : ¬ (a = zr T k0 2 ∧ b = 2)) (h16 : ¬ (a = zr T k0 2 ∧ b = 3)) (h17 : ¬ (a = zr T k0 2 ∧ b = 4)) (h18 : ¬ (a = zr T k0 2 ∧ b = 5)) (h19 : ¬ (a = zr T k0 2 ∧ b = 6)) (h20 : ¬ (a = zr T k0 2 ∧ b = 7)) (h21 : ¬ (a = zr T k0 2 ∧ b = 8)) (h22 : ¬ a = zr (zQ T (zr T k0 2) 9 (zr T (zr T k0 4) 14)) (zr T k0 4) 6) (h23 : ¬ a = zr (zQ T (zr T k0 2) 9 (zr T (zr T k0 4) 14)) (zr T k0 4) 7) (h24 : ¬ a = zr (zQ T (zr T k0 2) 9 (zr T (zr T k0 4) 14)) (zr T k0 4) 8) (h25 : ¬ a = zr (zQ T (zr T k0 2) 9 (zr T (zr T k0 4) 14)) (zr T k0 4) 9) (h26 : ¬ a = zr (zQ T (zr T k0 2) 9 (zr T (zr T k0 4) 14)) (zr T k0 4) 10) (h27 : ¬ a = zr (zQ T (zr T k0 2) 9 (zr T (zr T k0 4) 14)) (zr T k0 4) 11) (h28 : ¬ (a = zr (zQ T (zr T k0 2) 9 (zr T (zr T k0 4) 14)) (zr T k0 2) 9 ∧ b = 2)) (h29 : ¬ a = zr (zQ T (zr T k0 2) 9 (zr T (zr T k0 4) 14)) (zr (zQ T (zr T k0 2) 9 (zr T (zr T k0 4) 14)) (zr T k0 2) 9) 0) (h30 : ¬ (a = zr (zQ T (zr T k0 2) 9 (zr T (zr T k0 4) 14)) (zr T k0 2) 9 ∧ b = 1)) (h31 : ¬ a = zr (zQ T (zr T k0 2) 9 (zr T (zr T k0 4) 14)) (zr (zQ T (zr T k0 2) 9 (zr T (zr T k0 4) 14)) (zr T k0 4) 12) 0) (h32 : ¬ a = zr (zQ T (zr T k0 2) 9 (zr T (zr T k0 4) 14)) (zr (zQ T (zr T k0 2) 9 (zr T (zr T k0 4) 14)) (zr T k0 4) 12) 1) (h33 : ¬ a = zr (zQ T (zr T k0 2) 9 (zr T (zr T k0 4) 14)) (zr (zQ T (zr T k0 2) 9 (zr T (zr T k0 4) 14)) (zr T k0 4) 12) 2) (h34 : ¬ (a = zr (zQ T (zr T k0 2) 9 (zr T (zr T k0 4) 14)) (zr T k0 4) 12 ∧ b = 3)) (h35 : ¬ a = zr (zQ T (zr T k0 2) 9 (zr T (zr T k0 4) 14)) (zr (zQ T (zr T k0 2) 9 (zr T (zr T k0 4) 14)) (zr T k0 4) 13) 0) (h36 : ¬ a = zr (zQ T (zr T k0 2) 9 (zr T (zr T k0 4) 14)) (zr (zQ T (zr T k0 2) 9 (zr T (zr T k0 4) 14)) (zr T k0 4) 13) 1) (h37 : ¬ a = zr (zQ T (zr T k0 2) 9 (zr T (zr T k0 4) 14)) (zr (zQ T (zr T k0 2) 9 (zr T (zr T k0 4) 14)) (zr T k0 4) 13) 2) (h38 : ¬ (a = zr (zQ T (zr T k0 2) 9 (zr T (zr T k0 4) 14)) (zr T k0 4) 13 ∧ b = 3)) (h39 : ¬ (a = k0 ∧ b = 1)) (h40 : ¬ (a = zr (zQ T (zr T k0 2) 9 (zr T (zr T k0 4) 14)) k0 3 ∧ b = 0)) (h41 : ¬ (a = zr (zQ T (zr T k0 2) 9 (zr T (zr T k0 4) 14)) k0 3 ∧ b = 1)) (h42 : ¬ (a = zr (zQ T (zr T k0 2) 9 (zr T (zr T k0 4) 14)) k0 3 ∧ b = 2)) (h43 : ¬ (a = zr (zQ T (zr T k0 2) 9 (zr T (zr T k0 4) 14)) k0 3 ∧ b = 3)) (h44 : ¬ (a = zr (zQ T (zr T k0 2) 9 (zr T (zr T k0 4) 14)) k0 3 ∧ b = 4)) (h45 : ¬ (a = zr (zQ T (zr T k0 2) 9 (zr T (zr T k0 4) 14)) k0 3 ∧ b = 5)) (h46 : ¬ a = zr (zQ T (zr T k0 2) 9 (zr T (zr T k0 4) 14)) (zr (zQ T (zr T k0 2) 9 (zr T (zr T k0 4) 14)) k0 3) 6) (h47 : ¬ a = zr (zQ T (zr T k0 2) 9 (zr T (zr T k0 4) 14)) (zr (zQ T (zr T k0 2) 9 (zr T (zr T k0 4) 14)) k0 3) 7) (h48 : ¬ a = zr (zQ T (zr T k0 2) 9 (zr T (zr T k0 4) 14)) (zr (zQ T (zr T k0 2) 9 (zr T (zr T k0 4) 14)) k0 3) 8) (h49 : ¬ a = zr (zQ T (zr T k0 2) 9 (zr T (zr T k0 4) 14)) (zr (zQ T (zr T k0 2) 9 (zr T (zr T k0 4) 14)) k0 3) 9) (h50 : ¬ a = zr (zQ T (zr T k0 2) 9 (zr T (zr T k0 4) 14)) (zr (zQ T (zr T k0 2) 9 (zr T (zr T k0 4) 14)) k0 3) 10) (h51 : ¬ a = zr (zQ T (zr T k0 2) 9 (zr T (zr T k0 4) 14)) (zr (zQ T (zr T k0 2) 9 (zr T (zr T k0 4) 14)) k0 3) 11) (h52 : ¬ a = zr (zQ T (zr T k0 2) 9 (zr T (zr T k0 4) 14)) (zr (zQ T (zr T k0 2) 9 (zr T (zr T k0 4) 14)) (zr (zQ T (zr T k0 2) 9 (zr T (zr T k0 4) 14)) k0 3) 12) 0) (h53 : ¬ a = zr (zQ T (zr T k0 2) 9 (zr T (zr T k0 4) 14)) (zr (zQ T (zr T k0 2) 9 (zr T (zr T k0 4) 14)) (zr (zQ T (zr T k0 2) 9 (zr T (zr T k0 4) 14)) k0 3) 12) 1) (h54 : ¬ a = zr (zQ T (zr T k0 2) 9 (zr T (zr T k0 4) 14)) (zr (zQ T (zr T k0 2) 9 (zr T (zr T k0 4) 14)) (zr (zQ T (zr T k0 2) 9 (zr T (zr T k0 4) 14)) k0 3) 12) 2) (h55 : ¬ (a = zr (zQ T (zr T k0 2) 9 (zr T (zr T k0 4) 14)) (zr (zQ T (zr T k0 2) 9 (zr T (zr T k0 4) 14)) k0 3) 12 ∧ b = 3)) (h56 : ¬ a = zr (zQ T (zr T k0 2) 9 (zr T (zr T k0 4) 14)) (zr (zQ T (zr T k0 2) 9 (zr T (zr T k0 4) 14)) (zr (zQ T (zr T k0 2) 9 (zr T (zr T k0 4) 14)) k0 3) 13) 0) (h57 : ¬ a = zr (zQ T (zr T k0 2) 9 (zr T (zr T k0 4) 14)) (zr (zQ T (zr T k0 2) 9 (zr T (zr T k0 4) 14)) (zr (zQ T (zr T k0 2) 9 (zr T (zr T k0 4) 14)) k0 3) 13) 1) (h58 : ¬ a = zr (zQ T (zr T k0 2) 9 (zr T (zr T k0 4) 14)) (zr (zQ T (zr T k0 2) 9 (zr T (zr T k0 4) 14)) (zr (zQ T (zr T k0 2) 9 (zr T (zr T k0 4) 14)) k0 3) 13) 2) (h59 : ¬ (a = zr (zQ T (zr T k0 2) 9 (zr T (zr T k0 4) 14)) (zr (zQ T (zr T k0 2) 9 (zr T (zr T k0 4) 14)) k0 3) 13 ∧ b = 3)) (h60 : ¬ a = zr (zQ T (zr T k0 2) 9 (zr T (zr T k0 4) 14)) (zr (zQ T (zr T k0 2) 9 (zr T (zr T k0 4) 14)) (zr (zQ T (zr T k0 2) 9 (zr T (zr T k0 4) 14)) k0 3) 14) 0) (h61 : ¬ (a = zr (zQ T (zr T k0 2) 9 (zr T (zr T k0 4) 14)) (zr (zQ T (zr T k0 2) 9 (zr T (zr T k0 4) 14)) k0 3) 14 ∧ b = 1)) (h62 : ¬ (a = zr (zQ T (zr T k0 2) 9 (zr T (zr T k0 4) 14)) (zr (zQ T (zr T k0 2) 9 (zr T (zr T k0 4) 14)) k0 3) 14 ∧ b = 2)) (h63 : ¬ (a = zr (zQ T (zr T k0 2) 9 (zr T (zr T k0 4) 14)) k0 5 ∧ b = 3)) (h64 : ¬ (a = zr (zQ T (zr T k0 2) 9 (zr T (zr T k0 4) 14)) k0 13 ∧ b = 2)) (hS : S.1 a b = S0.1 a b) : zwl (fX11_book T k0 S) (fun q0 => q0.2.1 a b = S0.1 a b) := by
  unfold fX11_book
  refine zwl_b (wI_X6_readBook h0 h1 h2 h3 h4 h5 h6 h7 h8 h9 h10 h11 h12 h13 h14 h15 h16 h17 h18 h19 h20 h21 h22 h23 h24 h25 h26 h27 h28 h29 h30 h31 h32 h33 h34 h35 h36 h37 h38 hS) (fun r1 S3 e1 => ?_)
  exact (wI_X11_book_b19 h39 h40 h41 h42 h43 h44 h45 h46 h47 h48 h49 h50 h51 h52 h53 h54 h55 h56 h57 h58 h59 h60 h61 h62 h63 h64 e1)
set_option maxHeartbeats 40000 in
set_option maxRecDepth 100000 in
theorem wI_X11_rule_b35 {T : zT} {k0 : Nat} {s0 : Int32} {S S0 : zS} {a b : Nat} (h0 : ¬ (a = k0 ∧ b = 1)) (h1 : ¬ (a = k0 ∧ b = 7)) (hS : S.1 a b = S0.1 a b) : zwl (fX11_rule_b35 T k0 s0 S) (fun q0 => q0.2.1 a b = S0.1 a b) := by
  unfold fX11_rule_b35
  refine zwl_sIf h0 hS (fun S6 e1 => ?_)
  refine zwl_i ?_ ?_
  · refine zwl_sIf h1 e1 (fun S8 e2 => ?_)
    exact zwl_r e2
  · exact zwl_r e1
set_option maxHeartbeats 40000 in
set_option maxRecDepth 100000 in
theorem wI_X11_rule {T : zT} {k0 : Nat} {S S0 : zS} {a b : Nat} (h0 : ¬ (a = zr T (zr T k0 6) ((S.1 k0 7) : Int32).toNatClampNeg ∧ b = 2)) (h1 : ¬ (a = zr T (zr T k0 6) ((S.1 k0 7) : Int32).toNatClampNeg ∧ b = 3)) (h2 : ¬ (a = zr T (zr T (zr T k0 6) ((S.1 k0 7) : Int32).toNatClampNeg) 4 ∧ b = 1)) (h3 : ¬ (a = zr T (zr T (zr T k0 6) ((S.1 k0 7) : Int32).toNatClampNeg) 4 ∧ b = 2)) (h4 : ¬ (a = zr T (zr T k0 2) 0 ∧ b = 3)) (h5 : ¬ a = zr T (zr T (zr T k0 2) 0) 0) (h6 : ¬ a = zr T (zr T (zr T k0 2) 0) 1) (h7 : ¬ a = zr T (zr T (zr T k0 2) 0) 2) (h8 : ¬ (a = zr T k0 2 ∧ b = 1)) (h9 : ¬ (a = zr T k0 2 ∧ b = 2)) (h10 : ¬ (a = zr T k0 2 ∧ b = 3)) (h11 : ¬ (a = zr T k0 2 ∧ b = 4)) (h12 : ¬ (a = zr T k0 2 ∧ b = 5)) (h13 : ¬ (a = zr T k0 2 ∧ b = 6)) (h14 : ¬ (a = zr T k0 2 ∧ b = 7)) (h15 : ¬ (a = zr T k0 2 ∧ b = 8)) (h16 : ¬ (a = zr (zQ T (zr T k0 2) 9 (zr T (zr T (zr T k0 6) ((S.1 k0 7) : Int32).toNatClampNeg) 4)) (zr T k0 2) 9 ∧ b = 2)) (h17 : ¬ a = zr (zQ T (zr T k0 2) 9 (zr T (zr T (zr T k0 6) ((S.1 k0 7) : Int32).toNatClampNeg) 4)) (zr (zQ T (zr T k0 2) 9 (zr T (zr T (zr T k0 6) ((S.1 k0 7) : Int32).toNatClampNeg) 4)) (zr T k0 2) 9) 0) (h18 : ¬ (a = zr (zQ T (zr T k0 2) 9 (zr T (zr T (zr T k0 6) ((S.1 k0 7) : Int32).toNatClampNeg) 4)) (zr T k0 2) 9 ∧ b = 1)) (h19 : ¬ a = zr (zQ T (zr T k0 2) 9 (zr T (zr T (zr T k0 6) ((S.1 k0 7) : Int32).toNatClampNeg) 4)) (zr T (zr T k0 6) ((S.1 k0 7) : Int32).toNatClampNeg) 0) (h20 : ¬ a = zr (zQ T (zr T k0 2) 9 (zr T (zr T (zr T k0 6) ((S.1 k0 7) : Int32).toNatClampNeg) 4)) (zr T (zr T k0 6) ((S.1 k0 7) : Int32).toNatClampNeg) 1) (h21 : ¬ (a = k0 ∧ b = 1)) (h22 : ¬ (a = k0 ∧ b = 7)) (hS : S.1 a b = S0.1 a b) : zwl (fX11_rule T k0 S) (fun q0 => q0.2.1 a b = S0.1 a b) := by
  unfold fX11_rule
  refine zwl_i ?_ ?_
  · refine zwl_g ?_
    refine zwl_b (wI_X6_readRule h0 h1 h2 h3 h4 h5 h6 h7 h8 h9 h10 h11 h12 h13 h14 h15 h16 h17 h18 h19 h20 hS) (fun r3 S5 e1 => ?_)
    exact (wI_X11_rule_b35 h21 h22 e1)
  · exact zwl_r hS
