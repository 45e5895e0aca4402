/-! frames of longs -/
set_option maxHeartbeats 40000 in
set_option maxRecDepth 100000 in
theorem wJ_X0_tellThing_b52 {T : zT} {S S0 : zS} {a b : Nat}  (hS : S.2 a b = S0.2 a b) : zwl (fX0_tellThing_b52 T S) (fun q0 => q0.2.2 a b = S0.2 a b) := by
  unfold fX0_tellThing_b52
  exact zwl_r hS
set_option maxHeartbeats 40000 in
set_option maxRecDepth 100000 in
theorem wJ_X0_tellThing {T : zT} {k0 : Nat} {x1 : Int32} {x2 : Int32} {x3 : Int32} {S S0 : zS} {a b : Nat}  (hS : S.2 a b = S0.2 a b) : zwl (fX0_tellThing T k0 x1 x2 x3 S) (fun q0 => q0.2.2 a b = S0.2 a b) := by
  unfold fX0_tellThing
  refine zwl_i ?_ ?_
  · exact (wJ_X0_tellThing_b52  hS)
  · refine zwl_i ?_ ?_
    · exact (wJ_X0_tellThing_b52  hS)
    · refine zwl_g ?_
      refine zwl_sJn hS (fun S4 e1 => ?_)
      refine zwl_g ?_
      refine zwl_sJn e1 (fun S6 e2 => ?_)
      refine zwl_g ?_
      refine zwl_sJn e2 (fun S8 e3 => ?_)
      refine zwl_g ?_
      refine zwl_sJn e3 (fun S10 e4 => ?_)
      refine zwl_g ?_
      refine zwl_sJn e4 (fun S12 e5 => ?_)
      refine zwl_g ?_
      refine zwl_sJn e5 (fun S14 e6 => ?_)
      exact (wJ_X0_tellThing_b52  e6)
set_option maxHeartbeats 40000 in
set_option maxRecDepth 100000 in
theorem wJ_X1_add_b49 {T : zT} {S S0 : zS} {a b : Nat}  (hS : S.2 a b = S0.2 a b) : zwl (fX1_add_b49 T S) (fun q0 => q0.2.2 a b = S0.2 a b) := by
  unfold fX1_add_b49
  exact zwl_r hS
set_option maxHeartbeats 40000 in
set_option maxRecDepth 100000 in
theorem wJ_X1_add {T : zT} {k0 : Nat} {x1 : Int32} {x2 : Int32} {x3 : Int32} {S S0 : zS} {a b : Nat}  (hS : S.2 a b = S0.2 a b) : zwl (fX1_add T k0 x1 x2 x3 S) (fun q0 => q0.2.2 a b = S0.2 a b) := by
  unfold fX1_add
  refine zwl_i ?_ ?_
  · exact (wJ_X1_add_b49  hS)
  · refine zwl_g ?_
    refine zwl_sJn hS (fun S3 e1 => ?_)
    refine zwl_g ?_
    refine zwl_sJn e1 (fun S5 e2 => ?_)
    refine zwl_g ?_
    refine zwl_sJn e2 (fun S7 e3 => ?_)
    refine zwl_sJn e3 (fun S8 e4 => ?_)
    exact (wJ_X1_add_b49  e4)
set_option maxHeartbeats 40000 in
set_option maxRecDepth 100000 in
theorem wJ_X2_clear {T : zT} {k0 : Nat} {S S0 : zS} {a b : Nat}  (hS : S.2 a b = S0.2 a b) : zwl (fX2_clear T k0 S) (fun q0 => q0.2.2 a b = S0.2 a b) := by
  unfold fX2_clear
  refine zwl_sJn hS (fun S1 e1 => ?_)
  refine zwl_sJn e1 (fun S2 e2 => ?_)
  exact zwl_r e2
set_option maxHeartbeats 40000 in
set_option maxRecDepth 100000 in
theorem wJ_X2_add_b56 {T : zT} {S S0 : zS} {a b : Nat}  (hS : S.2 a b = S0.2 a b) : zwl (fX2_add_b56 T S) (fun q0 => q0.2.2 a b = S0.2 a b) := by
  unfold fX2_add_b56
  exact zwl_r hS
set_option maxHeartbeats 40000 in
set_option maxRecDepth 100000 in
theorem wJ_X2_add_b38 {T : zT} {k0 : Nat} {x1 : Int32} {x2 : Int32} {S S0 : zS} {a b : Nat}  (hS : S.2 a b = S0.2 a b) : zwl (fX2_add_b38 T k0 x1 x2 S) (fun q0 => q0.2.2 a b = S0.2 a b) := by
  unfold fX2_add_b38
  refine zwl_i ?_ ?_
  · refine zwl_sJn hS (fun S3 e1 => ?_)
    exact (wJ_X2_add_b56  e1)
  · exact (wJ_X2_add_b56  hS)
set_option maxHeartbeats 40000 in
set_option maxRecDepth 100000 in
theorem wJ_X2_add {T : zT} {k0 : Nat} {x1 : Int32} {x2 : Int32} {S S0 : zS} {a b : Nat}  (hS : S.2 a b = S0.2 a b) : zwl (fX2_add T k0 x1 x2 S) (fun q0 => q0.2.2 a b = S0.2 a b) := by
  unfold fX2_add
  refine zwl_i ?_ ?_
  · exact (wJ_X2_add_b38  hS)
  · refine zwl_g ?_
    refine zwl_sJn hS (fun S5 e1 => ?_)
    refine zwl_sJn e1 (fun S6 e2 => ?_)
    exact (wJ_X2_add_b38  e2)
set_option maxHeartbeats 40000 in
set_option maxRecDepth 100000 in
theorem wJ_X3_work_b56 {T : zT} {k0 : Nat} {x1 : Int32} {x2 : Int32} {l3 : Int64} {x5 : Int32} {S S0 : zS} {a b : Nat}  (hS : S.2 a b = S0.2 a b) : zwl (fX3_work_b56 T k0 x1 x2 l3 x5 S) (Sum.elim (fun q1 => q1.2.2.2 a b = S0.2 a b) (fun q1 => q1.2.2 a b = S0.2 a b)) := by
  unfold fX3_work_b56
  refine zwl_v (fun u4 => ?_)
  exact zwl_r hS
set_option maxHeartbeats 40000 in
set_option maxRecDepth 100000 in
theorem wJ_X3_work_l5 {T : zT} {k0 : Nat} {x1 : Int32} {x2 : Int32} {l3 : Int64} {x5 : Int32} {S S0 : zS} {a b : Nat} (h0 : ¬ (a = k0 ∧ b = 0)) (hS : S.2 a b = S0.2 a b) : zwl (fX3_work_l5 T k0 x1 x2 l3 x5 S) (Sum.elim (fun q1 => q1.2.2.2 a b = S0.2 a b) (fun q1 => q1.2.2 a b = S0.2 a b)) := by
  unfold fX3_work_l5
  refine zwl_i ?_ ?_
  · exact zwl_r hS
  · refine zwl_sJf h0 hS (fun S2 e1 => ?_)
    refine zwl_i ?_ ?_
    · exact (wJ_X3_work_b56  e1)
    · refine zwl_v (fun w5 => ?_)
      exact (wJ_X3_work_b56  e1)
set_option maxHeartbeats 40000 in
set_option maxRecDepth 100000 in
theorem wJ_X3_work {T : zT} {k0 : Nat} {x1 : Int32} {x2 : Int32} {S S0 : zS} {a b : Nat} (h0 : ¬ (a = k0 ∧ b = 0)) (hS : S.2 a b = S0.2 a b) : zwl (fX3_work T k0 x1 x2 S) (fun q0 => q0.2.2 a b = S0.2 a b) := by
  unfold fX3_work
  refine zwl_b1 (zwl_lp (I := (fun q0 => q0.2.2.2 a b = S0.2 a b)) (Q := (fun q0 => q0.2.2 a b = S0.2 a b)) (fun a e3 => (wJ_X3_work_l5 h0 e3)) hS) (fun e6 e1 => ?_)
  exact zwl_r e1
set_option maxHeartbeats 40000 in
set_option maxRecDepth 100000 in
theorem wJ_X4_begin_l48 {T : zT} {k0 : Nat} {x1 : Int32} {S S0 : zS} {a b : Nat}  (hS : S.2 a b = S0.2 a b) : zwl (fX4_begin_l48 T k0 x1 S) (Sum.elim (fun q1 => q1.2.2 a b = S0.2 a b) (fun q1 => q1.2 a b = S0.2 a b)) := by
  unfold fX4_begin_l48
  refine zwl_i ?_ ?_
  · exact zwl_r hS
  · refine zwl_g ?_
    refine zwl_g ?_
    refine zwl_sJn hS (fun S12 e1 => ?_)
    refine zwl_g ?_
    refine zwl_g ?_
    refine zwl_sJn e1 (fun S15 e2 => ?_)
    refine zwl_g ?_
    refine zwl_sJn e2 (fun S17 e3 => ?_)
    refine zwl_g ?_
    refine zwl_sJn e3 (fun S19 e4 => ?_)
    refine zwl_v (fun u20 => ?_)
    exact zwl_r e4
set_option maxHeartbeats 40000 in
set_option maxRecDepth 100000 in
theorem wJ_X4_begin {T : zT} {k0 : Nat} {S S0 : zS} {a b : Nat}  (hS : S.2 a b = S0.2 a b) : zwl (fX4_begin T k0 S) (fun q0 => q0.2.2 a b = S0.2 a b) := by
  unfold fX4_begin
  refine zwl_sJn hS (fun S1 e1 => ?_)
  refine zwl_sJn e1 (fun S2 e2 => ?_)
  refine zwl_sJn e2 (fun S3 e3 => ?_)
  refine zwl_sJn e3 (fun S4 e4 => ?_)
  refine zwl_sJn e4 (fun S5 e5 => ?_)
  refine zwl_sJn e5 (fun S6 e6 => ?_)
  refine zwl_sJn e6 (fun S7 e7 => ?_)
  refine zwl_sJn e7 (fun S8 e8 => ?_)
  refine zwl_b1 (zwl_lp (I := (fun q0 => q0.2.2 a b = S0.2 a b)) (Q := (fun q0 => q0.2 a b = S0.2 a b)) (fun a e11 => (wJ_X4_begin_l48  e11)) e8) (fun e21 e9 => ?_)
  exact zwl_r e9
set_option maxHeartbeats 40000 in
set_option maxRecDepth 100000 in
theorem wJ_X4_putOne_b21 {T : zT} {S S0 : zS} {a b : Nat}  (hS : S.2 a b = S0.2 a b) : zwl (fX4_putOne_b21 T S) (fun q0 => q0.2.2 a b = S0.2 a b) := by
  unfold fX4_putOne_b21
  exact zwl_r hS
set_option maxHeartbeats 40000 in
set_option maxRecDepth 100000 in
theorem wJ_X4_putOne {T : zT} {k0 : Nat} {x1 : Int32} {x2 : Int32} {S S0 : zS} {a b : Nat}  (hS : S.2 a b = S0.2 a b) : zwl (fX4_putOne T k0 x1 x2 S) (fun q0 => q0.2.2 a b = S0.2 a b) := by
  unfold fX4_putOne
  refine zwl_i ?_ ?_
  · exact (wJ_X4_putOne_b21  hS)
  · refine zwl_i ?_ ?_
    · exact (wJ_X4_putOne_b21  hS)
    · refine zwl_i ?_ ?_
      · exact (wJ_X4_putOne_b21  hS)
      · refine zwl_sJn hS (fun S4 e1 => ?_)
        refine zwl_sJn e1 (fun S5 e2 => ?_)
        refine zwl_g ?_
        refine zwl_sJn e2 (fun S7 e3 => ?_)
        refine zwl_g ?_
        refine zwl_g ?_
        refine zwl_sJn e3 (fun S10 e4 => ?_)
        refine zwl_g ?_
        refine zwl_g ?_
        refine zwl_sJn e4 (fun S13 e5 => ?_)
        refine zwl_g ?_
        refine zwl_sJn e5 (fun S15 e6 => ?_)
        exact zwl_r e6
set_option maxHeartbeats 40000 in
set_option maxRecDepth 100000 in
theorem wJ_X5_countStates_b49 {T : zT} {k0 : Nat} {x1 : Int32} {S S0 : zS} {a b : Nat}  (hS : S.2 a b = S0.2 a b) : zwl (fX5_countStates_b49 T k0 x1 S) (Sum.elim (fun q1 => q1.2.2 a b = S0.2 a b) (fun q1 => q1.2 a b = S0.2 a b)) := by
  unfold fX5_countStates_b49
  refine zwl_v (fun u5 => ?_)
  exact zwl_r hS
set_option maxHeartbeats 40000 in
set_option maxRecDepth 100000 in
theorem wJ_X5_countStates_l2 {T : zT} {k0 : Nat} {x1 : Int32} {S S0 : zS} {a b : Nat}  (hS : S.2 a b = S0.2 a b) : zwl (fX5_countStates_l2 T k0 x1 S) (Sum.elim (fun q1 => q1.2.2 a b = S0.2 a b) (fun q1 => q1.2 a b = S0.2 a b)) := by
  unfold fX5_countStates_l2
  refine zwl_i ?_ ?_
  · exact zwl_r hS
  · refine zwl_i ?_ ?_
    · exact zwl_r hS
    · refine zwl_g ?_
      refine zwl_i ?_ ?_
      · exact (wJ_X5_countStates_b49  hS)
      · refine zwl_sJn hS (fun S6 e1 => ?_)
        refine zwl_sJn e1 (fun S7 e2 => ?_)
        exact (wJ_X5_countStates_b49  e2)
set_option maxHeartbeats 40000 in
set_option maxRecDepth 100000 in
theorem wJ_X5_countStates_b55 {T : zT} {S S0 : zS} {a b : Nat}  (hS : S.2 a b = S0.2 a b) : zwl (fX5_countStates_b55 T S) (fun q0 => q0.2.2 a b = S0.2 a b) := by
  unfold fX5_countStates_b55
  exact zwl_r hS
set_option maxHeartbeats 40000 in
set_option maxRecDepth 100000 in
theorem wJ_X5_countStates {T : zT} {k0 : Nat} {S S0 : zS} {a b : Nat}  (hS : S.2 a b = S0.2 a b) : zwl (fX5_countStates T k0 S) (fun q0 => q0.2.2 a b = S0.2 a b) := by
  unfold fX5_countStates
  refine zwl_b1 (zwl_lp (I := (fun q0 => q0.2.2 a b = S0.2 a b)) (Q := (fun q0 => q0.2 a b = S0.2 a b)) (fun a e3 => (wJ_X5_countStates_l2  e3)) hS) (fun e8 e1 => ?_)
  exact (wJ_X5_countStates_b55  e1)
set_option maxHeartbeats 40000 in
set_option maxRecDepth 100000 in
theorem wJ_X5_start_b20 {T : zT} {k0 : Nat} {n0 : Nat} {x1 : Int32} {x2 : Int32} {x3 : Int32} {s0 : Int32} {s1 : Int32} {s2 : Nat} {m2 : Nat} {S S0 : zS} {a b : Nat}  (hS : S.2 a b = S0.2 a b) : zwl (fX5_start_b20 T k0 n0 x1 x2 x3 s0 s1 s2 m2 S) (Sum.elim (fun q1 => q1.2.2 a b = S0.2 a b) (fun q1 => q1.2 a b = S0.2 a b)) := by
  unfold fX5_start_b20
  refine zwl_g ?_
  refine zwl_sJn hS (fun S4 e1 => ?_)
  refine zwl_v (fun u5 => ?_)
  exact zwl_r e1
set_option maxHeartbeats 40000 in
set_option maxRecDepth 100000 in
theorem wJ_X5_start_l2 {T : zT} {k0 : Nat} {n0 : Nat} {x1 : Int32} {x2 : Int32} {x3 : Int32} {S S0 : zS} {a b : Nat}  (hS : S.2 a b = S0.2 a b) : zwl (fX5_start_l2 T k0 n0 x1 x2 x3 S) (Sum.elim (fun q1 => q1.2.2 a b = S0.2 a b) (fun q1 => q1.2 a b = S0.2 a b)) := by
  unfold fX5_start_l2
  refine zwl_i ?_ ?_
  · exact zwl_r hS
  · refine zwl_i ?_ ?_
    · exact (wJ_X5_start_b20  hS)
    · exact (wJ_X5_start_b20  hS)
set_option maxHeartbeats 40000 in
set_option maxRecDepth 100000 in
theorem wJ_X5_start {T : zT} {k0 : Nat} {n0 : Nat} {x1 : Int32} {x2 : Int32} {S S0 : zS} {a b : Nat}  (hS : S.2 a b = S0.2 a b) : zwl (fX5_start T k0 n0 x1 x2 S) (fun q0 => q0.2.2 a b = S0.2 a b) := by
  unfold fX5_start
  refine zwl_b1 (zwl_lp (I := (fun q0 => q0.2.2 a b = S0.2 a b)) (Q := (fun q0 => q0.2 a b = S0.2 a b)) (fun a e3 => (wJ_X5_start_l2  e3)) hS) (fun e6 e1 => ?_)
  exact zwl_r e1
set_option maxHeartbeats 40000 in
set_option maxRecDepth 100000 in
theorem wJ_X6_next_b85 {T : zT} {S S0 : zS} {a b : Nat}  (hS : S.2 a b = S0.2 a b) : zwl (fX6_next_b85 T S) (fun q0 => q0.2.2 a b = S0.2 a b) := by
  unfold fX6_next_b85
  exact zwl_r hS
set_option maxHeartbeats 40000 in
set_option maxRecDepth 100000 in
theorem wJ_X6_next_b27 {T : zT} {k0 : Nat} {S S0 : zS} {a b : Nat}  (hS : S.2 a b = S0.2 a b) : zwl (fX6_next_b27 T k0 S) (fun q0 => q0.2.2 a b = S0.2 a b) := by
  unfold fX6_next_b27
  refine zwl_sJn hS (fun S2 e1 => ?_)
  refine zwl_g ?_
  refine zwl_sJn e1 (fun S4 e2 => ?_)
  refine zwl_g ?_
  refine zwl_sJn e2 (fun S6 e3 => ?_)
  refine zwl_g ?_
  refine zwl_sJn e3 (fun S8 e4 => ?_)
  exact (wJ_X6_next_b85  e4)
set_option maxHeartbeats 40000 in
set_option maxRecDepth 100000 in
theorem wJ_X6_next {T : zT} {k0 : Nat} {S S0 : zS} {a b : Nat}  (hS : S.2 a b = S0.2 a b) : zwl (fX6_next T k0 S) (fun q0 => q0.2.2 a b = S0.2 a b) := by
  unfold fX6_next
  refine zwl_i ?_ ?_
  · exact (wJ_X6_next_b27  hS)
  · refine zwl_i ?_ ?_
    · exact (wJ_X6_next_b85  hS)
    · refine zwl_i ?_ ?_
      · exact (wJ_X6_next_b85  hS)
      · exact (wJ_X6_next_b27  hS)
set_option maxHeartbeats 40000 in
set_option maxRecDepth 100000 in
theorem wJ_X6_fail_b22 {T : zT} {S S0 : zS} {a b : Nat}  (hS : S.2 a b = S0.2 a b) : zwl (fX6_fail_b22 T S) (fun q0 => q0.2.2 a b = S0.2 a b) := by
  unfold fX6_fail_b22
  exact zwl_r hS
set_option maxHeartbeats 40000 in
set_option maxRecDepth 100000 in
theorem wJ_X6_fail {T : zT} {k0 : Nat} {x1 : Int32} {S S0 : zS} {a b : Nat}  (hS : S.2 a b = S0.2 a b) : zwl (fX6_fail T k0 x1 S) (fun q0 => q0.2.2 a b = S0.2 a b) := by
  unfold fX6_fail
  refine zwl_i ?_ ?_
  · refine zwl_sJn hS (fun S2 e1 => ?_)
    exact (wJ_X6_fail_b22  e1)
  · exact (wJ_X6_fail_b22  hS)
set_option maxHeartbeats 40000 in
set_option maxRecDepth 100000 in
theorem wJ_X7_add_b49 {T : zT} {S S0 : zS} {a b : Nat}  (hS : S.2 a b = S0.2 a b) : zwl (fX7_add_b49 T S) (fun q0 => q0.2.2 a b = S0.2 a b) := by
  unfold fX7_add_b49
  exact zwl_r hS
set_option maxHeartbeats 40000 in
set_option maxRecDepth 100000 in
theorem wJ_X7_add {T : zT} {k0 : Nat} {x1 : Int32} {x2 : Int32} {x3 : Int32} {S S0 : zS} {a b : Nat}  (hS : S.2 a b = S0.2 a b) : zwl (fX7_add T k0 x1 x2 x3 S) (fun q0 => q0.2.2 a b = S0.2 a b) := by
  unfold fX7_add
  refine zwl_i ?_ ?_
  · exact (wJ_X7_add_b49  hS)
  · refine zwl_g ?_
    refine zwl_sJn hS (fun S3 e1 => ?_)
    refine zwl_g ?_
    refine zwl_sJn e1 (fun S5 e2 => ?_)
    refine zwl_g ?_
    refine zwl_sJn e2 (fun S7 e3 => ?_)
    refine zwl_sJn e3 (fun S8 e4 => ?_)
    exact (wJ_X7_add_b49  e4)
set_option maxHeartbeats 40000 in
set_option maxRecDepth 100000 in
theorem wJ_X8_add_b39 {T : zT} {S S0 : zS} {a b : Nat}  (hS : S.2 a b = S0.2 a b) : zwl (fX8_add_b39 T S) (fun q0 => q0.2.2 a b = S0.2 a b) := by
  unfold fX8_add_b39
  exact zwl_r hS
set_option maxHeartbeats 40000 in
set_option maxRecDepth 100000 in
theorem wJ_X8_add {T : zT} {k0 : Nat} {x1 : Int32} {x2 : Int32} {S S0 : zS} {a b : Nat}  (hS : S.2 a b = S0.2 a b) : zwl (fX8_add T k0 x1 x2 S) (fun q0 => q0.2.2 a b = S0.2 a b) := by
  unfold fX8_add
  refine zwl_i ?_ ?_
  · exact (wJ_X8_add_b39  hS)
  · refine zwl_g ?_
    refine zwl_sJn hS (fun S3 e1 => ?_)
    refine zwl_g ?_
    refine zwl_sJn e1 (fun S5 e2 => ?_)
    refine zwl_sJn e2 (fun S6 e3 => ?_)
    exact (wJ_X8_add_b39  e3)
set_option maxHeartbeats 40000 in
set_option maxRecDepth 100000 in
theorem wJ_X10_add_b50 {T : zT} {S S0 : zS} {a b : Nat}  (hS : S.2 a b = S0.2 a b) : zwl (fX10_add_b50 T S) (fun q0 => q0.2.2 a b = S0.2 a b) := by
  unfold fX10_add_b50
  exact zwl_r hS
set_option maxHeartbeats 40000 in
set_option maxRecDepth 100000 in
theorem wJ_X10_add {T : zT} {k0 : Nat} {x1 : Int32} {x2 : Int32} {x3 : Int32} {S S0 : zS} {a b : Nat}  (hS : S.2 a b = S0.2 a b) : zwl (fX10_add T k0 x1 x2 x3 S) (fun q0 => q0.2.2 a b = S0.2 a b) := by
  unfold fX10_add
  refine zwl_i ?_ ?_
  · exact (wJ_X10_add_b50  hS)
  · refine zwl_g ?_
    refine zwl_sJn hS (fun S3 e1 => ?_)
    refine zwl_g ?_
    refine zwl_sJn e1 (fun S5 e2 => ?_)
    refine zwl_g ?_
    refine zwl_sJn e2 (fun S7 e3 => ?_)
    refine zwl_sJn e3 (fun S8 e4 => ?_)
    exact (wJ_X10_add_b50  e4)
set_option maxHeartbeats 40000 in
set_option maxRecDepth 100000 in
theorem wJ_X11_putBytes_b43 {T : zT} {k0 : Nat} {x1 : Int32} {x2 : Int32} {S S0 : zS} {a b : Nat}  (hS : S.2 a b = S0.2 a b) : zwl (fX11_putBytes_b43 T k0 x1 x2 S) (Sum.elim (fun q1 => q1.2.2 a b = S0.2 a b) (fun q1 => q1.2 a b = S0.2 a b)) := by
  unfold fX11_putBytes_b43
  refine zwl_v (fun u3 => ?_)
  exact zwl_r hS
set_option maxHeartbeats 40000 in
set_option maxRecDepth 100000 in
theorem wJ_X11_putBytes_l3 {T : zT} {k0 : Nat} {x1 : Int32} {x2 : Int32} {S S0 : zS} {a b : Nat}  (hS : S.2 a b = S0.2 a b) : zwl (fX11_putBytes_l3 T k0 x1 x2 S) (Sum.elim (fun q1 => q1.2.2 a b = S0.2 a b) (fun q1 => q1.2 a b = S0.2 a b)) := by
  unfold fX11_putBytes_l3
  refine zwl_i ?_ ?_
  · exact zwl_r hS
  · refine zwl_i ?_ ?_
    · exact (wJ_X11_putBytes_b43  hS)
    · refine zwl_g ?_
      refine zwl_sJn hS (fun S5 e1 => ?_)
      refine zwl_sJn e1 (fun S6 e2 => ?_)
      exact (wJ_X11_putBytes_b43  e2)
set_option maxHeartbeats 40000 in
set_option maxRecDepth 100000 in
theorem wJ_X11_putBytes {T : zT} {k0 : Nat} {x1 : Int32} {S S0 : zS} {a b : Nat}  (hS : S.2 a b = S0.2 a b) : zwl (fX11_putBytes T k0 x1 S) (fun q0 => q0.2.2 a b = S0.2 a b) := by
  unfold fX11_putBytes
  refine zwl_b1 (zwl_lp (I := (fun q0 => q0.2.2 a b = S0.2 a b)) (Q := (fun q0 => q0.2 a b = S0.2 a b)) (fun a e3 => (wJ_X11_putBytes_l3  e3)) hS) (fun e7 e1 => ?_)
  exact zwl_r e1
set_option maxHeartbeats 40000 in
set_option maxRecDepth 100000 in
theorem wJ_X11_end_b12 {T : zT} {S S0 : zS} {a b : Nat}  (hS : S.2 a b = S0.2 a b) : zwl (fX11_end_b12 T S) (fun q0 => q0.2.2 a b = S0.2 a b) := by
  unfold fX11_end_b12
  exact zwl_r hS
set_option maxHeartbeats 40000 in
set_option maxRecDepth 100000 in
theorem wJ_X11_end {T : zT} {k0 : Nat} {x1 : Int32} {S S0 : zS} {a b : Nat}  (hS : S.2 a b = S0.2 a b) : zwl (fX11_end T k0 x1 S) (fun q0 => q0.2.2 a b = S0.2 a b) := by
  unfold fX11_end
  refine zwl_i ?_ ?_
  · exact (wJ_X11_end_b12  hS)
  · refine zwl_i ?_ ?_
    · refine zwl_sJn hS (fun S3 e1 => ?_)
      exact zwl_r e1
    · exact (wJ_X11_end_b12  hS)
set_option maxHeartbeats 40000 in
set_option maxRecDepth 100000 in
theorem wJ_X11_row_b15 {T : zT} {S S0 : zS} {a b : Nat}  (hS : S.2 a b = S0.2 a b) : zwl (fX11_row_b15 T S) (fun q0 => q0.2.2 a b = S0.2 a b) := by
  unfold fX11_row_b15
  exact zwl_r hS
set_option maxHeartbeats 40000 in
set_option maxRecDepth 100000 in
theorem wJ_X11_row {T : zT} {k0 : Nat} {x1 : Int32} {S S0 : zS} {a b : Nat}  (hS : S.2 a b = S0.2 a b) : zwl (fX11_row T k0 x1 S) (fun q0 => q0.2.2 a b = S0.2 a b) := by
  unfold fX11_row
  refine zwl_i ?_ ?_
  · exact (wJ_X11_row_b15  hS)
  · refine zwl_i ?_ ?_
    · refine zwl_sJn hS (fun S3 e1 => ?_)
      exact zwl_r e1
    · exact (wJ_X11_row_b15  hS)
set_option maxHeartbeats 40000 in
set_option maxRecDepth 100000 in
theorem wJ_X12_clears_l5 {T : zT} {k0 : Nat} {x1 : Int32} {x2 : Int32} {S S0 : zS} {a b : Nat}  (hS : S.2 a b = S0.2 a b) : zwl (fX12_clears_l5 T k0 x1 x2 S) (Sum.elim (fun q1 => q1.2.2 a b = S0.2 a b) (fun q1 => q1.2 a b = S0.2 a b)) := by
  unfold fX12_clears_l5
  refine zwl_i ?_ ?_
  · exact zwl_r hS
  · refine zwl_g ?_
    refine zwl_sJn hS (fun S4 e1 => ?_)
    refine zwl_g ?_
    refine zwl_sJn e1 (fun S6 e2 => ?_)
    refine zwl_g ?_
    refine zwl_sJn e2 (fun S8 e3 => ?_)
    refine zwl_g ?_
    refine zwl_sJn e3 (fun S10 e4 => ?_)
    refine zwl_g ?_
    refine zwl_sJn e4 (fun S12 e5 => ?_)
    refine zwl_g ?_
    refine zwl_sJn e5 (fun S14 e6 => ?_)
    refine zwl_g ?_
    refine zwl_sJn e6 (fun S16 e7 => ?_)
    refine zwl_v (fun u17 => ?_)
    exact zwl_r e7
set_option maxHeartbeats 40000 in
set_option maxRecDepth 100000 in
theorem wJ_X12_clears {T : zT} {k0 : Nat} {x1 : Int32} {S S0 : zS} {a b : Nat}  (hS : S.2 a b = S0.2 a b) : zwl (fX12_clears T k0 x1 S) (fun q0 => q0.2.2 a b = S0.2 a b) := by
  unfold fX12_clears
  refine zwl_v (fun u1 => ?_)
  refine zwl_b1 (zwl_lp (I := (fun q0 => q0.2.2 a b = S0.2 a b)) (Q := (fun q0 => q0.2 a b = S0.2 a b)) (fun a e3 => (wJ_X12_clears_l5  e3)) hS) (fun e18 e1 => ?_)
  refine zwl_g ?_
  refine zwl_sJn e1 (fun S20 e4 => ?_)
  refine zwl_g ?_
  refine zwl_sJn e4 (fun S22 e5 => ?_)
  refine zwl_g ?_
  refine zwl_sJn e5 (fun S24 e6 => ?_)
  refine zwl_g ?_
  refine zwl_sJn e6 (fun S26 e7 => ?_)
  refine zwl_g ?_
  refine zwl_sJn e7 (fun S28 e8 => ?_)
  exact zwl_r e8
set_option maxHeartbeats 40000 in
set_option maxRecDepth 100000 in
theorem wJ_X12_put_l3 {T : zT} {k0 : Nat} {x1 : Int32} {x2 : Int32} {S S0 : zS} {a b : Nat}  (hS : S.2 a b = S0.2 a b) : zwl (fX12_put_l3 T k0 x1 x2 S) (Sum.elim (fun q1 => q1.2.2 a b = S0.2 a b) (fun q1 => q1.2 a b = S0.2 a b)) := by
  unfold fX12_put_l3
  refine zwl_i ?_ ?_
  · exact zwl_r hS
  · refine zwl_g ?_
    refine zwl_sJn hS (fun S3 e1 => ?_)
    refine zwl_sJn e1 (fun S4 e2 => ?_)
    refine zwl_v (fun u5 => ?_)
    exact zwl_r e2
set_option maxHeartbeats 40000 in
set_option maxRecDepth 100000 in
theorem wJ_X12_put {T : zT} {k0 : Nat} {x1 : Int32} {S S0 : zS} {a b : Nat}  (hS : S.2 a b = S0.2 a b) : zwl (fX12_put T k0 x1 S) (fun q0 => q0.2.2 a b = S0.2 a b) := by
  unfold fX12_put
  refine zwl_b1 (zwl_lp (I := (fun q0 => q0.2.2 a b = S0.2 a b)) (Q := (fun q0 => q0.2 a b = S0.2 a b)) (fun a e3 => (wJ_X12_put_l3  e3)) hS) (fun e6 e1 => ?_)
  exact zwl_r e1
set_option maxHeartbeats 40000 in
set_option maxRecDepth 100000 in
theorem wJ_X12_end_b12 {T : zT} {S S0 : zS} {a b : Nat}  (hS : S.2 a b = S0.2 a b) : zwl (fX12_end_b12 T S) (fun q0 => q0.2.2 a b = S0.2 a b) := by
  unfold fX12_end_b12
  exact zwl_r hS
set_option maxHeartbeats 40000 in
set_option maxRecDepth 100000 in
theorem wJ_X12_end {T : zT} {k0 : Nat} {x1 : Int32} {S S0 : zS} {a b : Nat}  (hS : S.2 a b = S0.2 a b) : zwl (fX12_end T k0 x1 S) (fun q0 => q0.2.2 a b = S0.2 a b) := by
  unfold fX12_end
  refine zwl_i ?_ ?_
  · exact (wJ_X12_end_b12  hS)
  · refine zwl_i ?_ ?_
    · refine zwl_sJn hS (fun S3 e1 => ?_)
      exact zwl_r e1
    · exact (wJ_X12_end_b12  hS)
set_option maxHeartbeats 40000 in
set_option maxRecDepth 100000 in
theorem wJ_X12_fails_b23 {T : zT} {s0 : Int32} {s1 : Nat} {S S0 : zS} {a b : Nat}  (hS : S.2 a b = S0.2 a b) : zwl (fX12_fails_b23 T s0 s1 S) (fun q0 => q0.2.2 a b = S0.2 a b) := by
  unfold fX12_fails_b23
  refine zwl_sJn hS (fun S2 e1 => ?_)
  exact zwl_r e1
set_option maxHeartbeats 40000 in
set_option maxRecDepth 100000 in
theorem wJ_X12_fails {T : zT} {k0 : Nat} {x1 : Int32} {x2 : Int32} {S S0 : zS} {a b : Nat}  (hS : S.2 a b = S0.2 a b) : zwl (fX12_fails T k0 x1 x2 S) (fun q0 => q0.2.2 a b = S0.2 a b) := by
  unfold fX12_fails
  refine zwl_i ?_ ?_
  · exact (wJ_X12_fails_b23  hS)
  · exact (wJ_X12_fails_b23  hS)
set_option maxHeartbeats 40000 in
set_option maxRecDepth 100000 in
theorem wJ_X12_entry_b55 {T : zT} {S S0 : zS} {a b : Nat}  (hS : S.2 a b = S0.2 a b) : zwl (fX12_entry_b55 T S) (fun q0 => q0.2.2 a b = S0.2 a b) := by
  unfold fX12_entry_b55
  exact zwl_r hS
set_option maxHeartbeats 40000 in
set_option maxRecDepth 100000 in
theorem wJ_X12_entry {T : zT} {k0 : Nat} {x1 : Int32} {x2 : Int32} {S S0 : zS} {a b : Nat}  (hS : S.2 a b = S0.2 a b) : zwl (fX12_entry T k0 x1 x2 S) (fun q0 => q0.2.2 a b = S0.2 a b) := by
  unfold fX12_entry
  refine zwl_i ?_ ?_
  · refine zwl_g ?_
    refine zwl_sJn hS (fun S3 e1 => ?_)
    refine zwl_g ?_
    refine zwl_sJn e1 (fun S5 e2 => ?_)
    refine zwl_sJn e2 (fun S6 e3 => ?_)
    exact (wJ_X12_entry_b55  e3)
  · exact (wJ_X12_entry_b55  hS)
set_option maxHeartbeats 40000 in
set_option maxRecDepth 100000 in
theorem wJ_X12_over_l2 {T : zT} {k0 : Nat} {n0 : Nat} {x1 : Int32} {x2 : Int32} {S S0 : zS} {a b : Nat}  (hS : S.2 a b = S0.2 a b) : zwl (fX12_over_l2 T k0 n0 x1 x2 S) (Sum.elim (fun q1 => q1.2.2 a b = S0.2 a b) (fun q1 => q1.2 a b = S0.2 a b)) := by
  unfold fX12_over_l2
  refine zwl_i ?_ ?_
  · exact zwl_r hS
  · refine zwl_g ?_
    refine zwl_g ?_
    refine zwl_sJn hS (fun S4 e1 => ?_)
    refine zwl_v (fun u5 => ?_)
    exact zwl_r e1
set_option maxHeartbeats 40000 in
set_option maxRecDepth 100000 in
theorem wJ_X12_over {T : zT} {k0 : Nat} {n0 : Nat} {x1 : Int32} {S S0 : zS} {a b : Nat}  (hS : S.2 a b = S0.2 a b) : zwl (fX12_over T k0 n0 x1 S) (fun q0 => q0.2.2 a b = S0.2 a b) := by
  unfold fX12_over
  refine zwl_b1 (zwl_lp (I := (fun q0 => q0.2.2 a b = S0.2 a b)) (Q := (fun q0 => q0.2 a b = S0.2 a b)) (fun a e3 => (wJ_X12_over_l2  e3)) hS) (fun e6 e1 => ?_)
  exact zwl_r e1
set_option maxHeartbeats 40000 in
set_option maxRecDepth 100000 in
theorem wJ_X12_begins_b28 {T : zT} {k0 : Nat} {x1 : Int32} {s0 : Int32} {s1 : Int32} {s2 : Nat} {m2 : Nat} {S S0 : zS} {a b : Nat}  (hS : S.2 a b = S0.2 a b) : zwl (fX12_begins_b28 T k0 x1 s0 s1 s2 m2 S) (Sum.elim (fun q1 => q1.2.2 a b = S0.2 a b) (fun q1 => q1.2 a b = S0.2 a b)) := by
  unfold fX12_begins_b28
  refine zwl_g ?_
  refine zwl_sJn hS (fun S5 e1 => ?_)
  refine zwl_g ?_
  refine zwl_g ?_
  refine zwl_sJn e1 (fun S8 e2 => ?_)
  refine zwl_g ?_
  refine zwl_g ?_
  refine zwl_sJn e2 (fun S11 e3 => ?_)
  refine zwl_g ?_
  refine zwl_sJn e3 (fun S13 e4 => ?_)
  refine zwl_g ?_
  refine zwl_sJn e4 (fun S15 e5 => ?_)
  refine zwl_v (fun u16 => ?_)
  exact zwl_r e5
set_option maxHeartbeats 40000 in
set_option maxRecDepth 100000 in
theorem wJ_X12_begins_l2 {T : zT} {k0 : Nat} {x1 : Int32} {S S0 : zS} {a b : Nat}  (hS : S.2 a b = S0.2 a b) : zwl (fX12_begins_l2 T k0 x1 S) (Sum.elim (fun q1 => q1.2.2 a b = S0.2 a b) (fun q1 => q1.2 a b = S0.2 a b)) := by
  unfold fX12_begins_l2
  refine zwl_i ?_ ?_
  · exact zwl_r hS
  · refine zwl_g ?_
    refine zwl_i ?_ ?_
    · exact (wJ_X12_begins_b28  hS)
    · exact (wJ_X12_begins_b28  hS)
set_option maxHeartbeats 40000 in
set_option maxRecDepth 100000 in
theorem wJ_X12_begins {T : zT} {k0 : Nat} {S S0 : zS} {a b : Nat}  (hS : S.2 a b = S0.2 a b) : zwl (fX12_begins T k0 S) (fun q0 => q0.2.2 a b = S0.2 a b) := by
  unfold fX12_begins
  refine zwl_b1 (zwl_lp (I := (fun q0 => q0.2.2 a b = S0.2 a b)) (Q := (fun q0 => q0.2 a b = S0.2 a b)) (fun a e3 => (wJ_X12_begins_l2  e3)) hS) (fun e17 e1 => ?_)
  refine zwl_g ?_
  refine zwl_sJn e1 (fun S19 e4 => ?_)
  refine zwl_sJn e4 (fun S20 e5 => ?_)
  refine zwl_sJn e5 (fun S21 e6 => ?_)
  refine zwl_sJn e6 (fun S22 e7 => ?_)
  refine zwl_sJn e7 (fun S23 e8 => ?_)
  exact zwl_r e8
set_option maxHeartbeats 40000 in
set_option maxRecDepth 100000 in
theorem wJ_X12_loses_b52 {T : zT} {k0 : Nat} {x1 : Int32} {x2 : Int32} {s0 : Int32} {s1 : Int32} {s2 : Nat} {m2 : Nat} {S S0 : zS} {a b : Nat}  (hS : S.2 a b = S0.2 a b) : zwl (fX12_loses_b52 T k0 x1 x2 s0 s1 s2 m2 S) (Sum.elim (fun q1 => q1.2.2 a b = S0.2 a b) (fun q1 => q1.2 a b = S0.2 a b)) := by
  unfold fX12_loses_b52
  refine zwl_g ?_
  refine zwl_sJn hS (fun S6 e1 => ?_)
  refine zwl_v (fun u7 => ?_)
  exact zwl_r e1
set_option maxHeartbeats 40000 in
set_option maxRecDepth 100000 in
theorem wJ_X12_loses_b46 {T : zT} {k0 : Nat} {x1 : Int32} {x2 : Int32} {s0 : Int32} {s1 : Nat} {m1 : Nat} {S S0 : zS} {a b : Nat}  (hS : S.2 a b = S0.2 a b) : zwl (fX12_loses_b46 T k0 x1 x2 s0 s1 m1 S) (Sum.elim (fun q1 => q1.2.2 a b = S0.2 a b) (fun q1 => q1.2 a b = S0.2 a b)) := by
  unfold fX12_loses_b46
  refine zwl_g ?_
  exact (wJ_X12_loses_b52  hS)
set_option maxHeartbeats 40000 in
set_option maxRecDepth 100000 in
theorem wJ_X12_loses_l2 {T : zT} {k0 : Nat} {x1 : Int32} {x2 : Int32} {S S0 : zS} {a b : Nat}  (hS : S.2 a b = S0.2 a b) : zwl (fX12_loses_l2 T k0 x1 x2 S) (Sum.elim (fun q1 => q1.2.2 a b = S0.2 a b) (fun q1 => q1.2 a b = S0.2 a b)) := by
  unfold fX12_loses_l2
  refine zwl_i ?_ ?_
  · exact zwl_r hS
  · refine zwl_g ?_
    refine zwl_i ?_ ?_
    · refine zwl_g ?_
      refine zwl_i ?_ ?_
      · exact (wJ_X12_loses_b46  hS)
      · refine zwl_g ?_
        refine zwl_i ?_ ?_
        · exact (wJ_X12_loses_b46  hS)
        · exact (wJ_X12_loses_b52  hS)
    · exact (wJ_X12_loses_b46  hS)
set_option maxHeartbeats 40000 in
set_option maxRecDepth 100000 in
theorem wJ_X12_loses {T : zT} {k0 : Nat} {x1 : Int32} {S S0 : zS} {a b : Nat}  (hS : S.2 a b = S0.2 a b) : zwl (fX12_loses T k0 x1 S) (fun q0 => q0.2.2 a b = S0.2 a b) := by
  unfold fX12_loses
  refine zwl_b1 (zwl_lp (I := (fun q0 => q0.2.2 a b = S0.2 a b)) (Q := (fun q0 => q0.2 a b = S0.2 a b)) (fun a e3 => (wJ_X12_loses_l2  e3)) hS) (fun e12 e1 => ?_)
  exact zwl_r e1
set_option maxHeartbeats 40000 in
set_option maxRecDepth 100000 in
theorem wJ_X12_works_b72 {T : zT} {s0 : Int32} {S S0 : zS} {a b : Nat}  (hS : S.2 a b = S0.2 a b) : zwl (fX12_works_b72 T s0 S) (fun q0 => q0.2.2 a b = S0.2 a b) := by
  unfold fX12_works_b72
  refine zwl_g ?_
  exact zwl_r hS
set_option maxHeartbeats 40000 in
set_option maxRecDepth 100000 in
theorem wJ_X12_works_b67 {T : zT} {S S0 : zS} {a b : Nat}  (hS : S.2 a b = S0.2 a b) : zwl (fX12_works_b67 T S) (fun q0 => q0.2.2 a b = S0.2 a b) := by
  unfold fX12_works_b67
  exact (wJ_X12_works_b72  hS)
set_option maxHeartbeats 40000 in
set_option maxRecDepth 100000 in
theorem wJ_X12_works_b53 {T : zT} {s0 : Int32} {S S0 : zS} {a b : Nat}  (hS : S.2 a b = S0.2 a b) : zwl (fX12_works_b53 T s0 S) (fun q0 => q0.2.2 a b = S0.2 a b) := by
  unfold fX12_works_b53
  refine zwl_g ?_
  exact zwl_r hS
set_option maxHeartbeats 40000 in
set_option maxRecDepth 100000 in
theorem wJ_X12_works {T : zT} {k0 : Nat} {x1 : Int32} {x2 : Int32} {x3 : Int32} {S S0 : zS} {a b : Nat} (h0 : ¬ (a = k0 ∧ b = 52)) (hS : S.2 a b = S0.2 a b) : zwl (fX12_works T k0 x1 x2 x3 S) (fun q0 => q0.2.2 a b = S0.2 a b) := by
  unfold fX12_works
  refine zwl_i ?_ ?_
  · refine zwl_sJf h0 hS (fun S5 e1 => ?_)
    refine zwl_g ?_
    refine zwl_i ?_ ?_
    · exact (wJ_X12_works_b53  e1)
    · exact (wJ_X12_works_b53  e1)
  · refine zwl_i ?_ ?_
    · exact (wJ_X12_works_b67  hS)
    · refine zwl_i ?_ ?_
      · exact (wJ_X12_works_b67  hS)
      · exact (wJ_X12_works_b72  hS)
set_option maxHeartbeats 40000 in
set_option maxRecDepth 100000 in
theorem wJ_X12_asItIs {T : zT} {k0 : Nat} {S S0 : zS} {a b : Nat}  (hS : S.2 a b = S0.2 a b) : zwl (fX12_asItIs T k0 S) (fun q0 => q0.2.2 a b = S0.2 a b) := by
  unfold fX12_asItIs
  refine zwl_sJn hS (fun S1 e1 => ?_)
  refine zwl_sJn e1 (fun S2 e2 => ?_)
  refine zwl_sJn e2 (fun S3 e3 => ?_)
  refine zwl_sJn e3 (fun S4 e4 => ?_)
  refine zwl_sJn e4 (fun S5 e5 => ?_)
  refine zwl_g ?_
  refine zwl_sJn e5 (fun S7 e6 => ?_)
  exact zwl_r e6
set_option maxHeartbeats 40000 in
set_option maxRecDepth 100000 in
theorem wJ_X12_carry_b41 {T : zT} {k0 : Nat} {k1 : Nat} {n1 : Nat} {x2 : Int32} {x3 : Int32} {S S0 : zS} {a b : Nat}  (hS : S.2 a b = S0.2 a b) : zwl (fX12_carry_b41 T k0 k1 n1 x2 x3 S) (Sum.elim (fun q1 => q1.2.2 a b = S0.2 a b) (fun q1 => q1.2 a b = S0.2 a b)) := by
  unfold fX12_carry_b41
  refine zwl_sJn hS (fun S6 e1 => ?_)
  refine zwl_v (fun u7 => ?_)
  exact zwl_r e1
set_option maxHeartbeats 40000 in
set_option maxRecDepth 100000 in
theorem wJ_X12_carry_l2 {T : zT} {k0 : Nat} {k1 : Nat} {n1 : Nat} {x2 : Int32} {x3 : Int32} {S S0 : zS} {a b : Nat}  (hS : S.2 a b = S0.2 a b) : zwl (fX12_carry_l2 T k0 k1 n1 x2 x3 S) (Sum.elim (fun q1 => q1.2.2 a b = S0.2 a b) (fun q1 => q1.2 a b = S0.2 a b)) := by
  unfold fX12_carry_l2
  refine zwl_i ?_ ?_
  · exact zwl_r hS
  · refine zwl_i ?_ ?_
    · refine zwl_g ?_
      refine zwl_g ?_
      refine zwl_sJn hS (fun S5 e1 => ?_)
      exact (wJ_X12_carry_b41  e1)
    · refine zwl_g ?_
      refine zwl_g ?_
      refine zwl_sJn hS (fun S10 e2 => ?_)
      exact (wJ_X12_carry_b41  e2)
set_option maxHeartbeats 40000 in
set_option maxRecDepth 100000 in
theorem wJ_X12_carry {T : zT} {k0 : Nat} {k1 : Nat} {n1 : Nat} {x2 : Int32} {S S0 : zS} {a b : Nat}  (hS : S.2 a b = S0.2 a b) : zwl (fX12_carry T k0 k1 n1 x2 S) (fun q0 => q0.2.2 a b = S0.2 a b) := by
  unfold fX12_carry
  refine zwl_b1 (zwl_lp (I := (fun q0 => q0.2.2 a b = S0.2 a b)) (Q := (fun q0 => q0.2 a b = S0.2 a b)) (fun a e3 => (wJ_X12_carry_l2  e3)) hS) (fun e11 e1 => ?_)
  exact zwl_r e1
set_option maxHeartbeats 40000 in
set_option maxRecDepth 100000 in
theorem wJ_X0_clear {T : zT} {k0 : Nat} {S S0 : zS} {a b : Nat}  (hS : S.2 a b = S0.2 a b) : zwl (fX0_clear T k0 S) (fun q0 => q0.2.2 a b = S0.2 a b) := by
  unfold fX0_clear
  refine zwl_sJn hS (fun S1 e1 => ?_)
  refine zwl_sJn e1 (fun S2 e2 => ?_)
  refine zwl_sJn e2 (fun S3 e3 => ?_)
  refine zwl_sJn e3 (fun S4 e4 => ?_)
  refine zwl_sJn e4 (fun S5 e5 => ?_)
  refine zwl_sJn e5 (fun S6 e6 => ?_)
  refine zwl_sJn e6 (fun S7 e7 => ?_)
  refine zwl_sJn e7 (fun S8 e8 => ?_)
  refine zwl_b (wJ_X2_clear  e8) (fun r9 S11 e10 => ?_)
  exact zwl_r e10
set_option maxHeartbeats 40000 in
set_option maxRecDepth 100000 in
theorem wJ_X1_take {T : zT} {k0 : Nat} {k1 : Nat} {S S0 : zS} {a b : Nat}  (hS : S.2 a b = S0.2 a b) : zwl (fX1_take T k0 k1 S) (fun q0 => q0.2.2 a b = S0.2 a b) := by
  unfold fX1_take
  refine zwl_g ?_
  refine zwl_sJnC hS (fun S2 e1 => ?_)
  refine zwl_g ?_
  refine zwl_sJnC e1 (fun S4 e2 => ?_)
  refine zwl_g ?_
  refine zwl_sJnC e2 (fun S6 e3 => ?_)
  refine zwl_sJn e3 (fun S7 e4 => ?_)
  exact zwl_r e4
set_option maxHeartbeats 40000 in
set_option maxRecDepth 100000 in
theorem wJ_X2_take {T : zT} {k0 : Nat} {k1 : Nat} {S S0 : zS} {a b : Nat}  (hS : S.2 a b = S0.2 a b) : zwl (fX2_take T k0 k1 S) (fun q0 => q0.2.2 a b = S0.2 a b) := by
  unfold fX2_take
  refine zwl_g ?_
  refine zwl_sJnC hS (fun S2 e1 => ?_)
  refine zwl_sJn e1 (fun S3 e2 => ?_)
  refine zwl_sJn e2 (fun S4 e3 => ?_)
  exact zwl_r e3
set_option maxHeartbeats 40000 in
set_option maxRecDepth 100000 in
theorem wJ_X4_borrowOnce_b18 {T : zT} {S S0 : zS} {a b : Nat}  (hS : S.2 a b = S0.2 a b) : zwl (fX4_borrowOnce_b18 T S) (fun q0 => q0.2.2 a b = S0.2 a b) := by
  unfold fX4_borrowOnce_b18
  exact zwl_r hS
set_option maxHeartbeats 40000 in
set_option maxRecDepth 100000 in
theorem wJ_X4_borrowOnce {T : zT} {k0 : Nat} {x1 : Int32} {S S0 : zS} {a b : Nat}  (hS : S.2 a b = S0.2 a b) : zwl (fX4_borrowOnce T k0 x1 S) (fun q0 => q0.2.2 a b = S0.2 a b) := by
  unfold fX4_borrowOnce
  refine zwl_i ?_ ?_
  · refine zwl_t (fun r2 => ?_)
    refine zwl_i ?_ ?_
    · exact (wJ_X4_borrowOnce_b18  hS)
    · refine zwl_sJn hS (fun S5 e1 => ?_)
      refine zwl_sJn e1 (fun S6 e2 => ?_)
      exact zwl_r e2
  · exact (wJ_X4_borrowOnce_b18  hS)
set_option maxHeartbeats 40000 in
set_option maxRecDepth 100000 in
theorem wJ_X5_fetchAnywhere_b69 {T : zT} {k0 : Nat} {k1 : Nat} {n1 : Nat} {x2 : Int32} {x3 : Int32} {x4 : Int32} {S S0 : zS} {a b : Nat}  (hS : S.2 a b = S0.2 a b) : zwl (fX5_fetchAnywhere_b69 T k0 k1 n1 x2 x3 x4 S) (Sum.elim (fun q1 => q1.2.2 a b = S0.2 a b) (fun q1 => q1.2 a b = S0.2 a b)) := by
  unfold fX5_fetchAnywhere_b69
  refine zwl_v (fun u5 => ?_)
  exact zwl_r hS
set_option maxHeartbeats 40000 in
set_option maxRecDepth 100000 in
theorem wJ_X5_fetchAnywhere_l3 {T : zT} {k0 : Nat} {k1 : Nat} {n1 : Nat} {x2 : Int32} {x3 : Int32} {x4 : Int32} {S S0 : zS} {a b : Nat}  (hS : S.2 a b = S0.2 a b) : zwl (fX5_fetchAnywhere_l3 T k0 k1 n1 x2 x3 x4 S) (Sum.elim (fun q1 => q1.2.2 a b = S0.2 a b) (fun q1 => q1.2 a b = S0.2 a b)) := by
  unfold fX5_fetchAnywhere_l3
  refine zwl_i ?_ ?_
  · exact zwl_r hS
  · refine zwl_i ?_ ?_
    · exact zwl_r hS
    · refine zwl_v (fun u3 => ?_)
      refine zwl_i ?_ ?_
      · exact (wJ_X5_fetchAnywhere_b69  hS)
      · refine zwl_i ?_ ?_
        · exact (wJ_X5_fetchAnywhere_b69  hS)
        · refine zwl_g ?_
          refine zwl_i ?_ ?_
          · exact (wJ_X5_fetchAnywhere_b69  hS)
          · refine zwl_g ?_
            refine zwl_g ?_
            refine zwl_v (fun u11 => ?_)
            refine zwl_g ?_
            refine zwl_sJn hS (fun S13 e1 => ?_)
            exact (wJ_X5_fetchAnywhere_b69  e1)
set_option maxHeartbeats 40000 in
set_option maxRecDepth 100000 in
theorem wJ_X5_fetchAnywhere_b75 {T : zT} {S S0 : zS} {a b : Nat}  (hS : S.2 a b = S0.2 a b) : zwl (fX5_fetchAnywhere_b75 T S) (fun q0 => q0.2.2 a b = S0.2 a b) := by
  unfold fX5_fetchAnywhere_b75
  exact zwl_r hS
set_option maxHeartbeats 40000 in
set_option maxRecDepth 100000 in
theorem wJ_X5_fetchAnywhere {T : zT} {k0 : Nat} {k1 : Nat} {n1 : Nat} {x2 : Int32} {x3 : Int32} {S S0 : zS} {a b : Nat}  (hS : S.2 a b = S0.2 a b) : zwl (fX5_fetchAnywhere T k0 k1 n1 x2 x3 S) (fun q0 => q0.2.2 a b = S0.2 a b) := by
  unfold fX5_fetchAnywhere
  refine zwl_b1 (zwl_lp (I := (fun q0 => q0.2.2 a b = S0.2 a b)) (Q := (fun q0 => q0.2 a b = S0.2 a b)) (fun a e3 => (wJ_X5_fetchAnywhere_l3  e3)) hS) (fun e14 e1 => ?_)
  exact (wJ_X5_fetchAnywhere_b75  e1)
set_option maxHeartbeats 40000 in
set_option maxRecDepth 100000 in
theorem wJ_X5_shift_b26 {T : zT} {k0 : Nat} {n0 : Nat} {x1 : Int32} {x2 : Int32} {S S0 : zS} {a b : Nat}  (hS : S.2 a b = S0.2 a b) : zwl (fX5_shift_b26 T k0 n0 x1 x2 S) (Sum.elim (fun q1 => q1.2.2 a b = S0.2 a b) (fun q1 => q1.2 a b = S0.2 a b)) := by
  unfold fX5_shift_b26
  refine zwl_v (fun u4 => ?_)
  exact zwl_r hS
set_option maxHeartbeats 40000 in
set_option maxRecDepth 100000 in
theorem wJ_X5_shift_l2 {T : zT} {k0 : Nat} {n0 : Nat} {x1 : Int32} {x2 : Int32} {S S0 : zS} {a b : Nat}  (hS : S.2 a b = S0.2 a b) : zwl (fX5_shift_l2 T k0 n0 x1 x2 S) (Sum.elim (fun q1 => q1.2.2 a b = S0.2 a b) (fun q1 => q1.2 a b = S0.2 a b)) := by
  unfold fX5_shift_l2
  refine zwl_i ?_ ?_
  · exact zwl_r hS
  · refine zwl_g ?_
    refine zwl_i ?_ ?_
    · exact (wJ_X5_shift_b26  hS)
    · refine zwl_g ?_
      refine zwl_v (fun u6 => ?_)
      refine zwl_g ?_
      refine zwl_sJn hS (fun S8 e1 => ?_)
      exact (wJ_X5_shift_b26  e1)
set_option maxHeartbeats 40000 in
set_option maxRecDepth 100000 in
theorem wJ_X5_shift {T : zT} {k0 : Nat} {n0 : Nat} {x1 : Int32} {S S0 : zS} {a b : Nat}  (hS : S.2 a b = S0.2 a b) : zwl (fX5_shift T k0 n0 x1 S) (fun q0 => q0.2.2 a b = S0.2 a b) := by
  unfold fX5_shift
  refine zwl_b1 (zwl_lp (I := (fun q0 => q0.2.2 a b = S0.2 a b)) (Q := (fun q0 => q0.2 a b = S0.2 a b)) (fun a e3 => (wJ_X5_shift_l2  e3)) hS) (fun e9 e1 => ?_)
  exact zwl_r e1
set_option maxHeartbeats 40000 in
set_option maxRecDepth 100000 in
theorem wJ_X6_readSign_b56 {T : zT} {x1 : Int32} {S S0 : zS} {a b : Nat}  (hS : S.2 a b = S0.2 a b) : zwl (fX6_readSign_b56 T x1 S) (fun q0 => q0.2.2 a b = S0.2 a b) := by
  unfold fX6_readSign_b56
  exact zwl_r hS
set_option maxHeartbeats 40000 in
set_option maxRecDepth 100000 in
theorem wJ_X6_readSign_b17 {T : zT} {k0 : Nat} {x1 : Int32} {S S0 : zS} {a b : Nat}  (hS : S.2 a b = S0.2 a b) : zwl (fX6_readSign_b17 T k0 x1 S) (fun q0 => q0.2.2 a b = S0.2 a b) := by
  unfold fX6_readSign_b17
  refine zwl_b (wJ_X6_fail  hS) (fun r1 S5 e2 => ?_)
  exact (wJ_X6_readSign_b56  e2)
set_option maxHeartbeats 40000 in
set_option maxRecDepth 100000 in
theorem wJ_X6_readSign {T : zT} {k0 : Nat} {S S0 : zS} {a b : Nat}  (hS : S.2 a b = S0.2 a b) : zwl (fX6_readSign T k0 S) (fun q0 => q0.2.2 a b = S0.2 a b) := by
  unfold fX6_readSign
  refine zwl_v (fun u1 => ?_)
  refine zwl_i ?_ ?_
  · exact (wJ_X6_readSign_b17  hS)
  · refine zwl_i ?_ ?_
    · refine zwl_i ?_ ?_
      · refine zwl_sJn hS (fun S8 e1 => ?_)
        refine zwl_b (wJ_X6_next  e1) (fun r2 S11 e3 => ?_)
        exact (wJ_X6_readSign_b56  e3)
      · refine zwl_b (wJ_X6_fail  hS) (fun r4 S14 e5 => ?_)
        exact (wJ_X6_readSign_b56  e5)
    · exact (wJ_X6_readSign_b17  hS)
set_option maxHeartbeats 40000 in
set_option maxRecDepth 100000 in
theorem wJ_X6_readValue_b115 {T : zT} {S S0 : zS} {a b : Nat}  (hS : S.2 a b = S0.2 a b) : zwl (fX6_readValue_b115 T S) (fun q0 => q0.2.2 a b = S0.2 a b) := by
  unfold fX6_readValue_b115
  exact zwl_r hS
set_option maxHeartbeats 40000 in
set_option maxRecDepth 100000 in
theorem wJ_X6_readValue_b108 {T : zT} {k0 : Nat} {s0 : Int32} {s1 : Int32} {s2 : Nat} {S S0 : zS} {a b : Nat}  (hS : S.2 a b = S0.2 a b) : zwl (fX6_readValue_b108 T k0 s0 s1 s2 S) (fun q0 => q0.2.2 a b = S0.2 a b) := by
  unfold fX6_readValue_b108
  refine zwl_b (wJ_X2_add  hS) (fun r1 S9 e2 => ?_)
  refine zwl_b (wJ_X6_next  e2) (fun r3 S12 e4 => ?_)
  exact (wJ_X6_readValue_b115  e4)
set_option maxHeartbeats 40000 in
set_option maxRecDepth 100000 in
theorem wJ_X6_readValue_b88 {T : zT} {k0 : Nat} {s0 : Int32} {s1 : Nat} {S S0 : zS} {a b : Nat}  (hS : S.2 a b = S0.2 a b) : zwl (fX6_readValue_b88 T k0 s0 s1 S) (fun q0 => q0.2.2 a b = S0.2 a b) := by
  unfold fX6_readValue_b88
  refine zwl_i ?_ ?_
  · exact (wJ_X6_readValue_b108  hS)
  · exact (wJ_X6_readValue_b108  hS)
set_option maxHeartbeats 40000 in
set_option maxRecDepth 100000 in
theorem wJ_X6_readValue_b41 {T : zT} {k0 : Nat} {S S0 : zS} {a b : Nat}  (hS : S.2 a b = S0.2 a b) : zwl (fX6_readValue_b41 T k0 S) (fun q0 => q0.2.2 a b = S0.2 a b) := by
  unfold fX6_readValue_b41
  refine zwl_i ?_ ?_
  · refine zwl_sJn hS (fun S4 e1 => ?_)
    refine zwl_i ?_ ?_
    · exact (wJ_X6_readValue_b88  e1)
    · exact (wJ_X6_readValue_b88  e1)
  · refine zwl_b (wJ_X6_fail  hS) (fun r2 S15 e3 => ?_)
    exact (wJ_X6_readValue_b115  e3)
set_option maxHeartbeats 40000 in
set_option maxRecDepth 100000 in
theorem wJ_X6_readValue {T : zT} {k0 : Nat} {S S0 : zS} {a b : Nat}  (hS : S.2 a b = S0.2 a b) : zwl (fX6_readValue T k0 S) (fun q0 => q0.2.2 a b = S0.2 a b) := by
  unfold fX6_readValue
  refine zwl_i ?_ ?_
  · refine zwl_b (wJ_X6_fail  hS) (fun r1 S24 e2 => ?_)
    exact (wJ_X6_readValue_b115  e2)
  · refine zwl_i ?_ ?_
    · exact (wJ_X6_readValue_b41  hS)
    · refine zwl_t (fun r16 => ?_)
      refine zwl_i ?_ ?_
      · refine zwl_b (wJ_X6_fail  hS) (fun r3 S21 e4 => ?_)
        exact (wJ_X6_readValue_b115  e4)
      · exact (wJ_X6_readValue_b41  hS)
set_option maxHeartbeats 40000 in
set_option maxRecDepth 100000 in
theorem wJ_X6_number_b49 {T : zT} {k0 : Nat} {x1 : Int32} {S S0 : zS} {a b : Nat}  (hS : S.2 a b = S0.2 a b) : zwl (fX6_number_b49 T k0 x1 S) (fun q0 => q0.2.2 a b = S0.2 a b) := by
  unfold fX6_number_b49
  refine zwl_b (wJ_X6_fail  hS) (fun r1 S6 e2 => ?_)
  exact zwl_r e2
set_option maxHeartbeats 40000 in
set_option maxRecDepth 100000 in
theorem wJ_X6_number_b30 {T : zT} {k0 : Nat} {x1 : Int32} {x2 : Int32} {x3 : Int32} {S S0 : zS} {a b : Nat}  (hS : S.2 a b = S0.2 a b) : zwl (fX6_number_b30 T k0 x1 x2 x3 S) (fun q0 => q0.2.2 a b = S0.2 a b) := by
  unfold fX6_number_b30
  refine zwl_i ?_ ?_
  · exact (wJ_X6_number_b49  hS)
  · refine zwl_i ?_ ?_
    · exact (wJ_X6_number_b49  hS)
    · refine zwl_i ?_ ?_
      · refine zwl_b (wJ_X6_next  hS) (fun r1 S11 e2 => ?_)
        exact zwl_r e2
      · exact (wJ_X6_number_b49  hS)
set_option maxHeartbeats 40000 in
set_option maxRecDepth 100000 in
theorem wJ_X6_number {T : zT} {k0 : Nat} {x1 : Int32} {x2 : Int32} {S S0 : zS} {a b : Nat}  (hS : S.2 a b = S0.2 a b) : zwl (fX6_number T k0 x1 x2 S) (fun q0 => q0.2.2 a b = S0.2 a b) := by
  unfold fX6_number
  refine zwl_v (fun u1 => ?_)
  refine zwl_i ?_ ?_
  · exact (wJ_X6_number_b30  hS)
  · refine zwl_i ?_ ?_
    · exact (wJ_X6_number_b30  hS)
    · refine zwl_b (wJ_X6_fail  hS) (fun r1 S15 e2 => ?_)
      exact zwl_r e2
set_option maxHeartbeats 40000 in
set_option maxRecDepth 100000 in
theorem wJ_X6_expect_b20 {T : zT} {S S0 : zS} {a b : Nat}  (hS : S.2 a b = S0.2 a b) : zwl (fX6_expect_b20 T S) (fun q0 => q0.2.2 a b = S0.2 a b) := by
  unfold fX6_expect_b20
  exact zwl_r hS
set_option maxHeartbeats 40000 in
set_option maxRecDepth 100000 in
theorem wJ_X6_expect {T : zT} {k0 : Nat} {x1 : Int32} {S S0 : zS} {a b : Nat}  (hS : S.2 a b = S0.2 a b) : zwl (fX6_expect T k0 x1 S) (fun q0 => q0.2.2 a b = S0.2 a b) := by
  unfold fX6_expect
  refine zwl_i ?_ ?_
  · refine zwl_b (wJ_X6_next  hS) (fun r1 S7 e2 => ?_)
    exact (wJ_X6_expect_b20  e2)
  · refine zwl_b (wJ_X6_fail  hS) (fun r3 S4 e4 => ?_)
    exact (wJ_X6_expect_b20  e4)
set_option maxHeartbeats 40000 in
set_option maxRecDepth 100000 in
theorem wJ_X7_take {T : zT} {k0 : Nat} {k1 : Nat} {S S0 : zS} {a b : Nat}  (hS : S.2 a b = S0.2 a b) : zwl (fX7_take T k0 k1 S) (fun q0 => q0.2.2 a b = S0.2 a b) := by
  unfold fX7_take
  refine zwl_g ?_
  refine zwl_sJnC hS (fun S2 e1 => ?_)
  refine zwl_g ?_
  refine zwl_sJnC e1 (fun S4 e2 => ?_)
  refine zwl_g ?_
  refine zwl_sJnC e2 (fun S6 e3 => ?_)
  refine zwl_sJn e3 (fun S7 e4 => ?_)
  exact zwl_r e4
set_option maxHeartbeats 40000 in
set_option maxRecDepth 100000 in
theorem wJ_X8_clear {T : zT} {k0 : Nat} {S S0 : zS} {a b : Nat}  (hS : S.2 a b = S0.2 a b) : zwl (fX8_clear T k0 S) (fun q0 => q0.2.2 a b = S0.2 a b) := by
  unfold fX8_clear
  refine zwl_sJn hS (fun S1 e1 => ?_)
  refine zwl_sJn e1 (fun S2 e2 => ?_)
  refine zwl_b (wJ_X2_clear  e2) (fun r3 S5 e4 => ?_)
  exact zwl_r e4
set_option maxHeartbeats 40000 in
set_option maxRecDepth 100000 in
theorem wJ_X9_place {T : zT} {k0 : Nat} {x1 : Int32} {x2 : Int32} {x3 : Int32} {S S0 : zS} {a b : Nat} (h0 : ¬ a = zr T k0 0) (hS : S.2 a b = S0.2 a b) : zwl (fX9_place T k0 x1 x2 x3 S) (fun q0 => q0.2.2 a b = S0.2 a b) := by
  unfold fX9_place
  refine zwl_g ?_
  refine zwl_sJa h0 hS (fun S2 e1 => ?_)
  refine zwl_t (fun r3 => ?_)
  refine zwl_g ?_
  refine zwl_sJa h0 e1 (fun S6 e2 => ?_)
  refine zwl_t (fun r7 => ?_)
  refine zwl_g ?_
  refine zwl_sJa h0 e2 (fun S10 e3 => ?_)
  exact zwl_r e3
set_option maxHeartbeats 40000 in
set_option maxRecDepth 100000 in
theorem wJ_X9_valueAt_b157 {T : zT} {k0 : Nat} {k1 : Nat} {x3 : Int32} {x4 : Int32} {S S0 : zS} {a b : Nat}  (hS : S.2 a b = S0.2 a b) : zwl (fX9_valueAt_b157 T k0 k1 x3 x4 S) (Sum.elim (fun q1 => q1.2.2.2 a b = S0.2 a b) (Sum.elim (fun q2 => q2.2.2 a b = S0.2 a b) (fun q2 => q2.2.2 a b = S0.2 a b))) := by
  unfold fX9_valueAt_b157
  refine zwl_v (fun u9 => ?_)
  exact zwl_r hS
set_option maxHeartbeats 40000 in
set_option maxRecDepth 100000 in
theorem wJ_X9_valueAt_b87 {T : zT} {k0 : Nat} {k1 : Nat} {x3 : Int32} {x4 : Int32} {S S0 : zS} {a b : Nat}  (hS : S.2 a b = S0.2 a b) : zwl (fX9_valueAt_b87 T k0 k1 x3 x4 S) (Sum.elim (fun q1 => q1.2.2.2 a b = S0.2 a b) (Sum.elim (fun q2 => q2.2.2 a b = S0.2 a b) (fun q2 => q2.2.2 a b = S0.2 a b))) := by
  unfold fX9_valueAt_b87
  exact (wJ_X9_valueAt_b157  hS)
set_option maxHeartbeats 40000 in
set_option maxRecDepth 100000 in
theorem wJ_X9_valueAt_b83 {T : zT} {k0 : Nat} {k1 : Nat} {x3 : Int32} {x4 : Int32} {s0 : Int64} {s1 : Int32} {s2 : Nat} {m2 : Nat} {S S0 : zS} {a b : Nat} (h0 : ¬ a = s2) (hS : S.2 a b = S0.2 a b) : zwl (fX9_valueAt_b83 T k0 k1 x3 x4 s0 s1 s2 m2 S) (Sum.elim (fun q1 => q1.2.2.2 a b = S0.2 a b) (Sum.elim (fun q2 => q2.2.2 a b = S0.2 a b) (fun q2 => q2.2.2 a b = S0.2 a b))) := by
  unfold fX9_valueAt_b83
  refine zwl_g ?_
  refine zwl_sJa h0 hS (fun S14 e1 => ?_)
  refine zwl_v (fun u15 => ?_)
  exact (wJ_X9_valueAt_b87  e1)
set_option maxHeartbeats 40000 in
set_option maxRecDepth 100000 in
theorem wJ_X9_valueAt_b45 {T : zT} {k0 : Nat} {k1 : Nat} {x3 : Int32} {x4 : Int32} {x5 : Int32} {S S0 : zS} {a b : Nat} (h0 : ¬ a = zr T k0 1) (hS : S.2 a b = S0.2 a b) : zwl (fX9_valueAt_b45 T k0 k1 x3 x4 x5 S) (Sum.elim (fun q1 => q1.2.2.2 a b = S0.2 a b) (Sum.elim (fun q2 => q2.2.2 a b = S0.2 a b) (fun q2 => q2.2.2 a b = S0.2 a b))) := by
  unfold fX9_valueAt_b45
  refine zwl_t (fun r6 => ?_)
  refine zwl_i ?_ ?_
  · exact (wJ_X9_valueAt_b87  hS)
  · refine zwl_i ?_ ?_
    · exact (wJ_X9_valueAt_b83 h0 hS)
    · refine zwl_t (fun r11 => ?_)
      exact (wJ_X9_valueAt_b83 h0 hS)
set_option maxHeartbeats 40000 in
set_option maxRecDepth 100000 in
theorem wJ_X9_valueAt_l5 {T : zT} {k0 : Nat} {k1 : Nat} {x3 : Int32} {x4 : Int32} {S S0 : zS} {a b : Nat} (h0 : ¬ a = zr T k0 1) (hS : S.2 a b = S0.2 a b) : zwl (fX9_valueAt_l5 T k0 k1 x3 x4 S) (Sum.elim (fun q1 => q1.2.2.2 a b = S0.2 a b) (Sum.elim (fun q2 => q2.2.2 a b = S0.2 a b) (fun q2 => q2.2.2 a b = S0.2 a b))) := by
  unfold fX9_valueAt_l5
  refine zwl_i ?_ ?_
  · exact zwl_r hS
  · refine zwl_t (fun r2 => ?_)
    refine zwl_i ?_ ?_
    · exact zwl_r hS
    · refine zwl_i ?_ ?_
      · exact (wJ_X9_valueAt_b45 h0 hS)
      · refine zwl_i ?_ ?_
        · exact (wJ_X9_valueAt_b45 h0 hS)
        · refine zwl_i ?_ ?_
          · refine zwl_i ?_ ?_
            · exact (wJ_X9_valueAt_b157  hS)
            · refine zwl_g ?_
              refine zwl_g ?_
              refine zwl_sJa h0 hS (fun S29 e1 => ?_)
              exact (wJ_X9_valueAt_b157  e1)
          · refine zwl_i ?_ ?_
            · exact (wJ_X9_valueAt_b157  hS)
            · refine zwl_v (fun u19 => ?_)
              refine zwl_g ?_
              refine zwl_g ?_
              refine zwl_t (fun r22 => ?_)
              refine zwl_g ?_
              refine zwl_sJa h0 hS (fun S25 e2 => ?_)
              exact (wJ_X9_valueAt_b157  e2)
set_option maxHeartbeats 40000 in
set_option maxRecDepth 100000 in
theorem wJ_X9_valueAt_b177 {T : zT} {s0 : Int64} {S S0 : zS} {a b : Nat}  (hS : S.2 a b = S0.2 a b) : zwl (fX9_valueAt_b177 T s0 S) (fun q0 => q0.2.2 a b = S0.2 a b) := by
  unfold fX9_valueAt_b177
  exact zwl_r hS
set_option maxHeartbeats 40000 in
set_option maxRecDepth 100000 in
theorem wJ_X9_valueAt_b163 {T : zT} {k0 : Nat} {x3 : Int32} {S S0 : zS} {a b : Nat}  (hS : S.2 a b = S0.2 a b) : zwl (fX9_valueAt_b163 T k0 x3 S) (fun q0 => q0.2.2 a b = S0.2 a b) := by
  unfold fX9_valueAt_b163
  refine zwl_i ?_ ?_
  · exact (wJ_X9_valueAt_b177  hS)
  · refine zwl_g ?_
    exact (wJ_X9_valueAt_b177  hS)
set_option maxHeartbeats 40000 in
set_option maxRecDepth 100000 in
theorem wJ_X9_valueAt {T : zT} {k0 : Nat} {k1 : Nat} {x2 : Int32} {S S0 : zS} {a b : Nat} (h0 : ¬ a = zr T k0 1) (hS : S.2 a b = S0.2 a b) : zwl (fX9_valueAt T k0 k1 x2 S) (fun q0 => q0.2.2 a b = S0.2 a b) := by
  unfold fX9_valueAt
  refine zwl_b1 (zwl_lp (I := (fun q0 => q0.2.2.2 a b = S0.2 a b)) (Q := (Sum.elim (fun q1 => q1.2.2 a b = S0.2 a b) (fun q1 => q1.2.2 a b = S0.2 a b))) (fun a e3 => (wJ_X9_valueAt_l5 h0 e3)) hS) (fun e30 e1 => ?_)
  refine zwl_m e1 (fun e30_0 e4 => ?_) (fun e30_1 e5 => ?_)
  · exact (wJ_X9_valueAt_b163  e4)
  · exact (wJ_X9_valueAt_b163  e5)
set_option maxHeartbeats 40000 in
set_option maxRecDepth 100000 in
theorem wJ_X11_feed {T : zT} {k0 : Nat} {x1 : Int32} {x2 : Int32} {x3 : Int32} {x4 : Int32} {x5 : Int32} {S S0 : zS} {a b : Nat}  (hS : S.2 a b = S0.2 a b) : zwl (fX11_feed T k0 x1 x2 x3 x4 x5 S) (fun q0 => q0.2.2 a b = S0.2 a b) := by
  unfold fX11_feed
  refine zwl_i ?_ ?_
  · refine zwl_b (wJ_X11_putBytes  hS) (fun r1 S4 e2 => ?_)
    refine zwl_b (wJ_X11_putBytes  e2) (fun r3 S7 e4 => ?_)
    refine zwl_b (wJ_X11_putBytes  e4) (fun r5 S10 e6 => ?_)
    refine zwl_b (wJ_X11_putBytes  e6) (fun r7 S13 e8 => ?_)
    refine zwl_b (wJ_X11_putBytes  e8) (fun r9 S16 e10 => ?_)
    exact zwl_r e10
  · exact zwl_r hS
set_option maxHeartbeats 40000 in
set_option maxRecDepth 100000 in
theorem wJ_X11_act_b67 {T : zT} {S S0 : zS} {a b : Nat}  (hS : S.2 a b = S0.2 a b) : zwl (fX11_act_b67 T S) (fun q0 => q0.2.2 a b = S0.2 a b) := by
  unfold fX11_act_b67
  exact zwl_r hS
set_option maxHeartbeats 40000 in
set_option maxRecDepth 100000 in
theorem wJ_X11_act_b42 {T : zT} {k0 : Nat} {x1 : Int32} {x2 : Int32} {x3 : Int32} {s0 : Int32} {S S0 : zS} {a b : Nat}  (hS : S.2 a b = S0.2 a b) : zwl (fX11_act_b42 T k0 x1 x2 x3 s0 S) (fun q0 => q0.2.2 a b = S0.2 a b) := by
  unfold fX11_act_b42
  refine zwl_i ?_ ?_
  · exact (wJ_X11_act_b67  hS)
  · refine zwl_t (fun r4 => ?_)
    refine zwl_i ?_ ?_
    · exact (wJ_X11_act_b67  hS)
    · refine zwl_t (fun r7 => ?_)
      refine zwl_i ?_ ?_
      · exact (wJ_X11_act_b67  hS)
      · refine zwl_b (wJ_X7_add  hS) (fun r1 S12 e2 => ?_)
        exact zwl_r e2
set_option maxHeartbeats 40000 in
set_option maxRecDepth 100000 in
theorem wJ_X11_act_b41 {T : zT} {k0 : Nat} {x1 : Int32} {x2 : Int32} {x3 : Int32} {S S0 : zS} {a b : Nat}  (hS : S.2 a b = S0.2 a b) : zwl (fX11_act_b41 T k0 x1 x2 x3 S) (fun q0 => q0.2.2 a b = S0.2 a b) := by
  unfold fX11_act_b41
  exact (wJ_X11_act_b42  hS)
set_option maxHeartbeats 40000 in
set_option maxRecDepth 100000 in
theorem wJ_X11_act {T : zT} {k0 : Nat} {x1 : Int32} {x2 : Int32} {x3 : Int32} {S S0 : zS} {a b : Nat}  (hS : S.2 a b = S0.2 a b) : zwl (fX11_act T k0 x1 x2 x3 S) (fun q0 => q0.2.2 a b = S0.2 a b) := by
  unfold fX11_act
  refine zwl_i ?_ ?_
  · refine zwl_i ?_ ?_
    · exact (wJ_X11_act_b42  hS)
    · exact (wJ_X11_act_b42  hS)
  · refine zwl_i ?_ ?_
    · exact (wJ_X11_act_b41  hS)
    · refine zwl_i ?_ ?_
      · exact (wJ_X11_act_b41  hS)
      · refine zwl_t (fun r14 => ?_)
        refine zwl_i ?_ ?_
        · exact (wJ_X11_act_b41  hS)
        · exact (wJ_X11_act_b42  hS)
set_option maxHeartbeats 40000 in
set_option maxRecDepth 100000 in
theorem wJ_X12_feed {T : zT} {k0 : Nat} {x1 : Int32} {x2 : Int32} {x3 : Int32} {x4 : Int32} {x5 : Int32} {S S0 : zS} {a b : Nat}  (hS : S.2 a b = S0.2 a b) : zwl (fX12_feed T k0 x1 x2 x3 x4 x5 S) (fun q0 => q0.2.2 a b = S0.2 a b) := by
  unfold fX12_feed
  refine zwl_i ?_ ?_
  · refine zwl_b (wJ_X12_put  hS) (fun r1 S4 e2 => ?_)
    refine zwl_b (wJ_X12_put  e2) (fun r3 S7 e4 => ?_)
    refine zwl_b (wJ_X12_put  e4) (fun r5 S10 e6 => ?_)
    refine zwl_b (wJ_X12_put  e6) (fun r7 S13 e8 => ?_)
    refine zwl_b (wJ_X12_put  e8) (fun r9 S16 e10 => ?_)
    exact zwl_r e10
  · exact zwl_r hS
set_option maxHeartbeats 40000 in
set_option maxRecDepth 100000 in
theorem wJ_X12_blanks_l0 {T : zT} {k0 : Nat} {S S0 : zS} {a b : Nat}  (hS : S.2 a b = S0.2 a b) : zwl (fX12_blanks_l0 T k0 S) (Sum.elim (fun q1 => q1.2 a b = S0.2 a b) (fun q1 => q1.2 a b = S0.2 a b)) := by
  unfold fX12_blanks_l0
  refine zwl_t (fun r1 => ?_)
  refine zwl_i ?_ ?_
  · refine zwl_sJn hS (fun S4 e1 => ?_)
    exact zwl_r e1
  · exact zwl_r hS
set_option maxHeartbeats 40000 in
set_option maxRecDepth 100000 in
theorem wJ_X12_blanks {T : zT} {k0 : Nat} {S S0 : zS} {a b : Nat}  (hS : S.2 a b = S0.2 a b) : zwl (fX12_blanks T k0 S) (fun q0 => q0.2.2 a b = S0.2 a b) := by
  unfold fX12_blanks
  refine zwl_b1 (zwl_lp (I := (fun q0 => q0.2 a b = S0.2 a b)) (Q := (fun q0 => q0.2 a b = S0.2 a b)) (fun a e3 => (wJ_X12_blanks_l0  e3)) hS) (fun e5 e1 => ?_)
  exact zwl_r e1
set_option maxHeartbeats 40000 in
set_option maxRecDepth 100000 in
theorem wJ_X12_isCounted_b15 {T : zT} {k0 : Nat} {S S0 : zS} {a b : Nat}  (hS : S.2 a b = S0.2 a b) : zwl (fX12_isCounted_b15 T k0 S) (fun q0 => q0.2.2 a b = S0.2 a b) := by
  unfold fX12_isCounted_b15
  refine zwl_sJn hS (fun S2 e1 => ?_)
  exact zwl_r e1
set_option maxHeartbeats 40000 in
set_option maxRecDepth 100000 in
theorem wJ_X12_isCounted {T : zT} {k0 : Nat} {x1 : Int32} {S S0 : zS} {a b : Nat}  (hS : S.2 a b = S0.2 a b) : zwl (fX12_isCounted T k0 x1 S) (fun q0 => q0.2.2 a b = S0.2 a b) := by
  unfold fX12_isCounted
  refine zwl_i ?_ ?_
  · refine zwl_b (wJ_X12_fails  hS) (fun r1 S5 e2 => ?_)
    exact (wJ_X12_isCounted_b15  e2)
  · exact (wJ_X12_isCounted_b15  hS)
set_option maxHeartbeats 40000 in
set_option maxRecDepth 100000 in
theorem wJ_X12_opens_b40 {T : zT} {k0 : Nat} {x1 : Int32} {S S0 : zS} {a b : Nat}  (hS : S.2 a b = S0.2 a b) : zwl (fX12_opens_b40 T k0 x1 S) (fun q0 => q0.2.2 a b = S0.2 a b) := by
  unfold fX12_opens_b40
  refine zwl_g ?_
  refine zwl_sJn hS (fun S5 e1 => ?_)
  refine zwl_sJn e1 (fun S6 e2 => ?_)
  exact zwl_r e2
set_option maxHeartbeats 40000 in
set_option maxRecDepth 100000 in
theorem wJ_X12_opens_b30 {T : zT} {k0 : Nat} {x1 : Int32} {S S0 : zS} {a b : Nat}  (hS : S.2 a b = S0.2 a b) : zwl (fX12_opens_b30 T k0 x1 S) (fun q0 => q0.2.2 a b = S0.2 a b) := by
  unfold fX12_opens_b30
  refine zwl_sJn hS (fun S3 e1 => ?_)
  exact (wJ_X12_opens_b40  e1)
set_option maxHeartbeats 40000 in
set_option maxRecDepth 100000 in
theorem wJ_X12_opens_b12 {T : zT} {k0 : Nat} {x1 : Int32} {S S0 : zS} {a b : Nat}  (hS : S.2 a b = S0.2 a b) : zwl (fX12_opens_b12 T k0 x1 S) (fun q0 => q0.2.2 a b = S0.2 a b) := by
  unfold fX12_opens_b12
  refine zwl_i ?_ ?_
  · refine zwl_b (wJ_X12_fails  hS) (fun r1 S9 e2 => ?_)
    exact (wJ_X12_opens_b30  e2)
  · exact (wJ_X12_opens_b30  hS)
set_option maxHeartbeats 40000 in
set_option maxRecDepth 100000 in
theorem wJ_X12_opens {T : zT} {k0 : Nat} {x1 : Int32} {S S0 : zS} {a b : Nat}  (hS : S.2 a b = S0.2 a b) : zwl (fX12_opens T k0 x1 S) (fun q0 => q0.2.2 a b = S0.2 a b) := by
  unfold fX12_opens
  refine zwl_i ?_ ?_
  · exact (wJ_X12_opens_b12  hS)
  · refine zwl_i ?_ ?_
    · exact (wJ_X12_opens_b12  hS)
    · exact (wJ_X12_opens_b40  hS)
set_option maxHeartbeats 40000 in
set_option maxRecDepth 100000 in
theorem wJ_X12_answers_b47 {T : zT} {k0 : Nat} {x1 : Int32} {s0 : Int32} {s1 : Int32} {s2 : Nat} {S S0 : zS} {a b : Nat}  (hS : S.2 a b = S0.2 a b) : zwl (fX12_answers_b47 T k0 x1 s0 s1 s2 S) (Sum.elim (fun q1 => q1.2 a b = S0.2 a b) (fun q1 => q1.2 a b = S0.2 a b)) := by
  unfold fX12_answers_b47
  refine zwl_sJn hS (fun S10 e1 => ?_)
  exact zwl_r e1
set_option maxHeartbeats 40000 in
set_option maxRecDepth 100000 in
theorem wJ_X12_answers_l0 {T : zT} {k0 : Nat} {x1 : Int32} {S S0 : zS} {a b : Nat}  (hS : S.2 a b = S0.2 a b) : zwl (fX12_answers_l0 T k0 x1 S) (Sum.elim (fun q1 => q1.2 a b = S0.2 a b) (fun q1 => q1.2 a b = S0.2 a b)) := by
  unfold fX12_answers_l0
  refine zwl_t (fun r1 => ?_)
  refine zwl_i ?_ ?_
  · refine zwl_i ?_ ?_
    · refine zwl_b (wJ_X12_entry  hS) (fun r1 S7 e2 => ?_)
      refine zwl_sJn e2 (fun S8 e3 => ?_)
      refine zwl_i ?_ ?_
      · exact (wJ_X12_answers_b47  e3)
      · exact (wJ_X12_answers_b47  e3)
    · exact zwl_r hS
  · exact zwl_r hS
set_option maxHeartbeats 40000 in
set_option maxRecDepth 100000 in
theorem wJ_X12_answers_b54 {T : zT} {S S0 : zS} {a b : Nat}  (hS : S.2 a b = S0.2 a b) : zwl (fX12_answers_b54 T S) (fun q0 => q0.2.2 a b = S0.2 a b) := by
  unfold fX12_answers_b54
  exact zwl_r hS
set_option maxHeartbeats 40000 in
set_option maxRecDepth 100000 in
theorem wJ_X12_answers {T : zT} {k0 : Nat} {x1 : Int32} {S S0 : zS} {a b : Nat}  (hS : S.2 a b = S0.2 a b) : zwl (fX12_answers T k0 x1 S) (fun q0 => q0.2.2 a b = S0.2 a b) := by
  unfold fX12_answers
  refine zwl_b1 (zwl_lp (I := (fun q0 => q0.2 a b = S0.2 a b)) (Q := (fun q0 => q0.2 a b = S0.2 a b)) (fun a e3 => (wJ_X12_answers_l0  e3)) hS) (fun e11 e1 => ?_)
  exact (wJ_X12_answers_b54  e1)
set_option maxHeartbeats 40000 in
set_option maxRecDepth 100000 in
theorem wJ_X12_row {T : zT} {k0 : Nat} {x1 : Int32} {S S0 : zS} {a b : Nat}  (hS : S.2 a b = S0.2 a b) : zwl (fX12_row T k0 x1 S) (fun q0 => q0.2.2 a b = S0.2 a b) := by
  unfold fX12_row
  refine zwl_t (fun r1 => ?_)
  refine zwl_i ?_ ?_
  · exact zwl_r hS
  · refine zwl_sJn hS (fun S4 e1 => ?_)
    exact zwl_r e1
set_option maxHeartbeats 40000 in
set_option maxRecDepth 100000 in
theorem wJ_X12_does_b205 {T : zT} {S S0 : zS} {a b : Nat}  (hS : S.2 a b = S0.2 a b) : zwl (fX12_does_b205 T S) (fun q0 => q0.2.2 a b = S0.2 a b) := by
  unfold fX12_does_b205
  exact zwl_r hS
set_option maxHeartbeats 40000 in
set_option maxRecDepth 100000 in
theorem wJ_X12_does_b376 {T : zT} {S S0 : zS} {a b : Nat}  (hS : S.2 a b = S0.2 a b) : zwl (fX12_does_b376 T S) (fun q0 => q0.2.2 a b = S0.2 a b) := by
  unfold fX12_does_b376
  exact zwl_r hS
set_option maxHeartbeats 40000 in
set_option maxRecDepth 100000 in
theorem wJ_X12_does_b283 {T : zT} {k0 : Nat} {x2 : Int32} {x3 : Int32} {x4 : Int32} {x5 : Int32} {s0 : Int32} {s1 : Int32} {s2 : Nat} {m2 : Nat} {S S0 : zS} {a b : Nat}  (hS : S.2 a b = S0.2 a b) : zwl (fX12_does_b283 T k0 x2 x3 x4 x5 s0 s1 s2 m2 S) (fun q0 => q0.2.2 a b = S0.2 a b) := by
  unfold fX12_does_b283
  refine zwl_g ?_
  refine zwl_sJn hS (fun S22 e1 => ?_)
  refine zwl_i ?_ ?_
  · refine zwl_g ?_
    refine zwl_g ?_
    refine zwl_sJn e1 (fun S38 e2 => ?_)
    refine zwl_g ?_
    refine zwl_g ?_
    refine zwl_sJn e2 (fun S41 e3 => ?_)
    refine zwl_g ?_
    refine zwl_sJn e3 (fun S43 e4 => ?_)
    refine zwl_g ?_
    refine zwl_sJn e4 (fun S45 e5 => ?_)
    exact (wJ_X12_does_b376  e5)
  · refine zwl_i ?_ ?_
    · refine zwl_t (fun r25 => ?_)
      refine zwl_g ?_
      refine zwl_sJn e1 (fun S28 e6 => ?_)
      refine zwl_g ?_
      refine zwl_g ?_
      refine zwl_sJn e6 (fun S31 e7 => ?_)
      refine zwl_g ?_
      refine zwl_sJn e7 (fun S33 e8 => ?_)
      refine zwl_g ?_
      refine zwl_sJn e8 (fun S35 e9 => ?_)
      exact (wJ_X12_does_b376  e9)
    · exact (wJ_X12_does_b376  e1)
set_option maxHeartbeats 40000 in
set_option maxRecDepth 100000 in
theorem wJ_X12_does_b254 {T : zT} {k0 : Nat} {x2 : Int32} {x3 : Int32} {x4 : Int32} {x5 : Int32} {s0 : Int32} {s1 : Int32} {s2 : Nat} {S S0 : zS} {a b : Nat}  (hS : S.2 a b = S0.2 a b) : zwl (fX12_does_b254 T k0 x2 x3 x4 x5 s0 s1 s2 S) (fun q0 => q0.2.2 a b = S0.2 a b) := by
  unfold fX12_does_b254
  refine zwl_sJn hS (fun S18 e1 => ?_)
  refine zwl_i ?_ ?_
  · exact (wJ_X12_does_b283  e1)
  · refine zwl_i ?_ ?_
    · exact (wJ_X12_does_b283  e1)
    · exact (wJ_X12_does_b283  e1)
set_option maxHeartbeats 40000 in
set_option maxRecDepth 100000 in
theorem wJ_X12_does_b207 {T : zT} {k0 : Nat} {x2 : Int32} {x3 : Int32} {x4 : Int32} {x5 : Int32} {S S0 : zS} {a b : Nat}  (hS : S.2 a b = S0.2 a b) : zwl (fX12_does_b207 T k0 x2 x3 x4 x5 S) (fun q0 => q0.2.2 a b = S0.2 a b) := by
  unfold fX12_does_b207
  refine zwl_sJn hS (fun S15 e1 => ?_)
  refine zwl_i ?_ ?_
  · refine zwl_g ?_
    exact (wJ_X12_does_b254  e1)
  · refine zwl_i ?_ ?_
    · refine zwl_g ?_
      exact (wJ_X12_does_b254  e1)
    · exact (wJ_X12_does_b254  e1)
set_option maxHeartbeats 40000 in
set_option maxRecDepth 100000 in
theorem wJ_X12_does_b178 {T : zT} {k0 : Nat} {x2 : Int32} {x3 : Int32} {x4 : Int32} {x5 : Int32} {s0 : Int32} {s1 : Int32} {S S0 : zS} {a b : Nat}  (hS : S.2 a b = S0.2 a b) : zwl (fX12_does_b178 T k0 x2 x3 x4 x5 s0 s1 S) (fun q0 => q0.2.2 a b = S0.2 a b) := by
  unfold fX12_does_b178
  refine zwl_i ?_ ?_
  · refine zwl_i ?_ ?_
    · exact (wJ_X12_does_b205  hS)
    · refine zwl_i ?_ ?_
      · refine zwl_g ?_
        refine zwl_i ?_ ?_
        · exact (wJ_X12_does_b207  hS)
        · exact (wJ_X12_does_b205  hS)
      · exact (wJ_X12_does_b207  hS)
  · exact (wJ_X12_does_b205  hS)
set_option maxHeartbeats 40000 in
set_option maxRecDepth 100000 in
theorem wJ_X12_does_b159 {T : zT} {k0 : Nat} {x2 : Int32} {x3 : Int32} {x4 : Int32} {s0 : Int32} {S S0 : zS} {a b : Nat}  (hS : S.2 a b = S0.2 a b) : zwl (fX12_does_b159 T k0 x2 x3 x4 s0 S) (fun q0 => q0.2.2 a b = S0.2 a b) := by
  unfold fX12_does_b159
  refine zwl_g ?_
  refine zwl_i ?_ ?_
  · exact (wJ_X12_does_b178  hS)
  · exact (wJ_X12_does_b178  hS)
set_option maxHeartbeats 40000 in
set_option maxRecDepth 100000 in
theorem wJ_X12_does_b119 {T : zT} {x5 : Int32} {s0 : Int32} {s1 : Nat} {S S0 : zS} {a b : Nat}  (hS : S.2 a b = S0.2 a b) : zwl (fX12_does_b119 T x5 s0 s1 S) (fun q0 => q0.2.2 a b = S0.2 a b) := by
  unfold fX12_does_b119
  refine zwl_g ?_
  refine zwl_sJn hS (fun S59 e1 => ?_)
  refine zwl_g ?_
  exact zwl_r e1
set_option maxHeartbeats 40000 in
set_option maxRecDepth 100000 in
theorem wJ_X12_does_b114 {T : zT} {x5 : Int32} {s0 : Nat} {S S0 : zS} {a b : Nat}  (hS : S.2 a b = S0.2 a b) : zwl (fX12_does_b114 T x5 s0 S) (fun q0 => q0.2.2 a b = S0.2 a b) := by
  unfold fX12_does_b114
  exact (wJ_X12_does_b119  hS)
set_option maxHeartbeats 40000 in
set_option maxRecDepth 100000 in
theorem wJ_X12_does_b97 {T : zT} {k0 : Nat} {x5 : Int32} {s0 : Int32} {s1 : Int32} {s2 : Nat} {S S0 : zS} {a b : Nat}  (hS : S.2 a b = S0.2 a b) : zwl (fX12_does_b97 T k0 x5 s0 s1 s2 S) (fun q0 => q0.2.2 a b = S0.2 a b) := by
  unfold fX12_does_b97
  refine zwl_sJn hS (fun S56 e1 => ?_)
  refine zwl_i ?_ ?_
  · refine zwl_i ?_ ?_
    · exact (wJ_X12_does_b119  e1)
    · exact (wJ_X12_does_b114  e1)
  · exact (wJ_X12_does_b114  e1)
set_option maxHeartbeats 40000 in
set_option maxRecDepth 100000 in
theorem wJ_X12_does_b75 {T : zT} {k0 : Nat} {s0 : Int32} {S S0 : zS} {a b : Nat}  (hS : S.2 a b = S0.2 a b) : zwl (fX12_does_b75 T k0 s0 S) (fun q0 => q0.2.2 a b = S0.2 a b) := by
  unfold fX12_does_b75
  refine zwl_i ?_ ?_
  · exact (wJ_X12_does_b97  hS)
  · refine zwl_g ?_
    exact (wJ_X12_does_b97  hS)
set_option maxHeartbeats 40000 in
set_option maxRecDepth 100000 in
theorem wJ_X12_does_b74 {T : zT} {k0 : Nat} {S S0 : zS} {a b : Nat}  (hS : S.2 a b = S0.2 a b) : zwl (fX12_does_b74 T k0 S) (fun q0 => q0.2.2 a b = S0.2 a b) := by
  unfold fX12_does_b74
  exact (wJ_X12_does_b75  hS)
set_option maxHeartbeats 40000 in
set_option maxRecDepth 100000 in
theorem wJ_X12_does {T : zT} {k0 : Nat} {x1 : Int32} {S S0 : zS} {a b : Nat}  (hS : S.2 a b = S0.2 a b) : zwl (fX12_does T k0 x1 S) (fun q0 => q0.2.2 a b = S0.2 a b) := by
  unfold fX12_does
  refine zwl_g ?_
  refine zwl_v (fun u2 => ?_)
  refine zwl_g ?_
  refine zwl_v (fun u4 => ?_)
  refine zwl_g ?_
  refine zwl_v (fun u6 => ?_)
  refine zwl_i ?_ ?_
  · refine zwl_i ?_ ?_
    · refine zwl_g ?_
      refine zwl_i ?_ ?_
      · exact (wJ_X12_does_b74  hS)
      · refine zwl_g ?_
        refine zwl_g ?_
        refine zwl_i ?_ ?_
        · exact (wJ_X12_does_b74  hS)
        · refine zwl_g ?_
          refine zwl_i ?_ ?_
          · exact (wJ_X12_does_b74  hS)
          · exact (wJ_X12_does_b75  hS)
    · exact (wJ_X12_does_b74  hS)
  · refine zwl_i ?_ ?_
    · refine zwl_t (fun r52 => ?_)
      exact (wJ_X12_does_b159  hS)
    · refine zwl_i ?_ ?_
      · refine zwl_t (fun r50 => ?_)
        exact (wJ_X12_does_b159  hS)
      · exact (wJ_X12_does_b159  hS)
set_option maxHeartbeats 40000 in
set_option maxRecDepth 100000 in
theorem wJ_X12_carries {T : zT} {k0 : Nat} {x1 : Int32} {S S0 : zS} {a b : Nat}  (hS : S.2 a b = S0.2 a b) : zwl (fX12_carries T k0 x1 S) (fun q0 => q0.2.2 a b = S0.2 a b) := by
  unfold fX12_carries
  refine zwl_sJn hS (fun S1 e1 => ?_)
  refine zwl_g ?_
  refine zwl_sJn e1 (fun S3 e2 => ?_)
  refine zwl_b (wJ_X12_carry  e2) (fun r3 S6 e4 => ?_)
  refine zwl_g ?_
  refine zwl_sJn e4 (fun S8 e5 => ?_)
  refine zwl_b (wJ_X12_carry  e5) (fun r6 S11 e7 => ?_)
  refine zwl_b (wJ_X12_carry  e7) (fun r8 S14 e9 => ?_)
  refine zwl_b (wJ_X12_carry  e9) (fun r10 S17 e11 => ?_)
  refine zwl_b (wJ_X12_carry  e11) (fun r12 S20 e13 => ?_)
  refine zwl_b (wJ_X12_carry  e13) (fun r14 S23 e15 => ?_)
  refine zwl_b (wJ_X12_carry  e15) (fun r16 S26 e17 => ?_)
  refine zwl_b (wJ_X12_carry  e17) (fun r18 S29 e19 => ?_)
  refine zwl_b (wJ_X12_carry  e19) (fun r20 S32 e21 => ?_)
  refine zwl_b (wJ_X12_carry  e21) (fun r22 S35 e23 => ?_)
  refine zwl_b (wJ_X12_carry  e23) (fun r24 S38 e25 => ?_)
  refine zwl_b (wJ_X12_carry  e25) (fun r26 S41 e27 => ?_)
  refine zwl_b (wJ_X12_carry  e27) (fun r28 S44 e29 => ?_)
  refine zwl_b (wJ_X12_carry  e29) (fun r30 S47 e31 => ?_)
  refine zwl_b (wJ_X12_carry  e31) (fun r32 S50 e33 => ?_)
  refine zwl_b (wJ_X12_carry  e33) (fun r34 S53 e35 => ?_)
  refine zwl_b (wJ_X12_carry  e35) (fun r36 S56 e37 => ?_)
  refine zwl_b (wJ_X12_carry  e37) (fun r38 S59 e39 => ?_)
  refine zwl_b (wJ_X12_carry  e39) (fun r40 S62 e41 => ?_)
  refine zwl_b (wJ_X12_carry  e41) (fun r42 S65 e43 => ?_)
  refine zwl_b (wJ_X12_carry  e43) (fun r44 S68 e45 => ?_)
  refine zwl_b (wJ_X12_carry  e45) (fun r46 S71 e47 => ?_)
  refine zwl_b (wJ_X12_carry  e47) (fun r48 S74 e49 => ?_)
  refine zwl_b (wJ_X12_carry  e49) (fun r50 S77 e51 => ?_)
  exact zwl_r e51
set_option maxHeartbeats 40000 in
set_option maxRecDepth 100000 in
theorem wJ_X0_take {T : zT} {k0 : Nat} {k1 : Nat} {S S0 : zS} {a b : Nat}  (hS : S.2 a b = S0.2 a b) : zwl (fX0_take T k0 k1 S) (fun q0 => q0.2.2 a b = S0.2 a b) := by
  unfold fX0_take
  refine zwl_sJn hS (fun S1 e1 => ?_)
  refine zwl_sJn e1 (fun S2 e2 => ?_)
  refine zwl_sJn e2 (fun S3 e3 => ?_)
  refine zwl_sJn e3 (fun S4 e4 => ?_)
  refine zwl_sJn e4 (fun S5 e5 => ?_)
  refine zwl_sJn e5 (fun S6 e6 => ?_)
  refine zwl_g ?_
  refine zwl_sJnC e6 (fun S8 e7 => ?_)
  refine zwl_g ?_
  refine zwl_sJnC e7 (fun S10 e8 => ?_)
  refine zwl_g ?_
  refine zwl_sJnC e8 (fun S12 e9 => ?_)
  refine zwl_g ?_
  refine zwl_sJnC e9 (fun S14 e10 => ?_)
  refine zwl_g ?_
  refine zwl_sJnC e10 (fun S16 e11 => ?_)
  refine zwl_g ?_
  refine zwl_sJnC e11 (fun S18 e12 => ?_)
  refine zwl_b (wJ_X1_take  e12) (fun r13 S21 e14 => ?_)
  refine zwl_b (wJ_X1_take  e14) (fun r15 S24 e16 => ?_)
  refine zwl_b (wJ_X2_take  e16) (fun r17 S27 e18 => ?_)
  exact zwl_r e18
set_option maxHeartbeats 40000 in
set_option maxRecDepth 100000 in
theorem wJ_X1_holding_b56 {T : zT} {k0 : Nat} {k1 : Nat} {k2 : Nat} {x3 : Int32} {x4 : Int32} {S S0 : zS} {a b : Nat}  (hS : S.2 a b = S0.2 a b) : zwl (fX1_holding_b56 T k0 k1 k2 x3 x4 S) (Sum.elim (fun q1 => q1.2.2.2 a b = S0.2 a b) (fun q1 => q1.2.2 a b = S0.2 a b)) := by
  unfold fX1_holding_b56
  refine zwl_v (fun u6 => ?_)
  exact zwl_r hS
set_option maxHeartbeats 40000 in
set_option maxRecDepth 100000 in
theorem wJ_X1_holding_b49 {T : zT} {k0 : Nat} {k1 : Nat} {k2 : Nat} {x3 : Int32} {x4 : Int32} {S S0 : zS} {a b : Nat}  (hS : S.2 a b = S0.2 a b) : zwl (fX1_holding_b49 T k0 k1 k2 x3 x4 S) (Sum.elim (fun q1 => q1.2.2.2 a b = S0.2 a b) (fun q1 => q1.2.2 a b = S0.2 a b)) := by
  unfold fX1_holding_b49
  refine zwl_v (fun u5 => ?_)
  exact (wJ_X1_holding_b56  hS)
set_option maxHeartbeats 40000 in
set_option maxRecDepth 100000 in
theorem wJ_X1_holding_l5 {T : zT} {k0 : Nat} {k1 : Nat} {k2 : Nat} {x3 : Int32} {x4 : Int32} {S S0 : zS} {a b : Nat} (h0 : ¬ a = zr T k2 1) (hS : S.2 a b = S0.2 a b) : zwl (fX1_holding_l5 T k0 k1 k2 x3 x4 S) (Sum.elim (fun q1 => q1.2.2.2 a b = S0.2 a b) (fun q1 => q1.2.2 a b = S0.2 a b)) := by
  unfold fX1_holding_l5
  refine zwl_i ?_ ?_
  · exact zwl_r hS
  · refine zwl_i ?_ ?_
    · exact zwl_r hS
    · refine zwl_g ?_
      refine zwl_i ?_ ?_
      · exact (wJ_X1_holding_b49  hS)
      · refine zwl_g ?_
        refine zwl_b (wJ_X9_valueAt h0 hS) (fun r8 S10 e1 => ?_)
        refine zwl_i ?_ ?_
        · exact (wJ_X1_holding_b56  e1)
        · exact (wJ_X1_holding_b49  e1)
set_option maxHeartbeats 40000 in
set_option maxRecDepth 100000 in
theorem wJ_X1_holding_b62 {T : zT} {x3 : Int32} {S S0 : zS} {a b : Nat}  (hS : S.2 a b = S0.2 a b) : zwl (fX1_holding_b62 T x3 S) (fun q0 => q0.2.2 a b = S0.2 a b) := by
  unfold fX1_holding_b62
  exact zwl_r hS
set_option maxHeartbeats 40000 in
set_option maxRecDepth 100000 in
theorem wJ_X1_holding {T : zT} {k0 : Nat} {k1 : Nat} {k2 : Nat} {S S0 : zS} {a b : Nat} (h0 : ¬ a = zr T k2 1) (hS : S.2 a b = S0.2 a b) : zwl (fX1_holding T k0 k1 k2 S) (fun q0 => q0.2.2 a b = S0.2 a b) := by
  unfold fX1_holding
  refine zwl_b1 (zwl_lp (I := (fun q0 => q0.2.2.2 a b = S0.2 a b)) (Q := (fun q0 => q0.2.2 a b = S0.2 a b)) (fun a e3 => (wJ_X1_holding_l5 h0 e3)) hS) (fun e12 e1 => ?_)
  exact (wJ_X1_holding_b62  e1)
set_option maxHeartbeats 40000 in
set_option maxRecDepth 100000 in
theorem wJ_X4_startWeek_b80 {T : zT} {S S0 : zS} {a b : Nat}  (hS : S.2 a b = S0.2 a b) : zwl (fX4_startWeek_b80 T S) (fun q0 => q0.2.2 a b = S0.2 a b) := by
  unfold fX4_startWeek_b80
  exact zwl_r hS
set_option maxHeartbeats 40000 in
set_option maxRecDepth 100000 in
theorem wJ_X4_startWeek {T : zT} {k0 : Nat} {x1 : Int32} {S S0 : zS} {a b : Nat}  (hS : S.2 a b = S0.2 a b) : zwl (fX4_startWeek T k0 x1 S) (fun q0 => q0.2.2 a b = S0.2 a b) := by
  unfold fX4_startWeek
  refine zwl_t (fun r1 => ?_)
  refine zwl_sJn hS (fun S3 e1 => ?_)
  refine zwl_i ?_ ?_
  · exact (wJ_X4_startWeek_b80  e1)
  · refine zwl_i ?_ ?_
    · refine zwl_i ?_ ?_
      · refine zwl_sJn e1 (fun S7 e2 => ?_)
        exact (wJ_X4_startWeek_b80  e2)
      · refine zwl_sJn e1 (fun S8 e3 => ?_)
        exact (wJ_X4_startWeek_b80  e3)
    · exact (wJ_X4_startWeek_b80  e1)
set_option maxHeartbeats 40000 in
set_option maxRecDepth 100000 in
theorem wJ_X4_fetchOne_b21 {T : zT} {S S0 : zS} {a b : Nat}  (hS : S.2 a b = S0.2 a b) : zwl (fX4_fetchOne_b21 T S) (fun q0 => q0.2.2 a b = S0.2 a b) := by
  unfold fX4_fetchOne_b21
  exact zwl_r hS
set_option maxHeartbeats 40000 in
set_option maxRecDepth 100000 in
theorem wJ_X4_fetchOne {T : zT} {k0 : Nat} {x1 : Int32} {x2 : Int32} {S S0 : zS} {a b : Nat}  (hS : S.2 a b = S0.2 a b) : zwl (fX4_fetchOne T k0 x1 x2 S) (fun q0 => q0.2.2 a b = S0.2 a b) := by
  unfold fX4_fetchOne
  refine zwl_t (fun r1 => ?_)
  refine zwl_i ?_ ?_
  · exact (wJ_X4_fetchOne_b21  hS)
  · refine zwl_t (fun r4 => ?_)
    refine zwl_i ?_ ?_
    · refine zwl_t (fun r7 => ?_)
      refine zwl_sJn hS (fun S9 e1 => ?_)
      refine zwl_sJn e1 (fun S10 e2 => ?_)
      refine zwl_g ?_
      refine zwl_sJn e2 (fun S12 e3 => ?_)
      exact zwl_r e3
    · exact (wJ_X4_fetchOne_b21  hS)
set_option maxHeartbeats 40000 in
set_option maxRecDepth 100000 in
theorem wJ_X4_sellOne {T : zT} {k0 : Nat} {x1 : Int32} {S S0 : zS} {a b : Nat}  (hS : S.2 a b = S0.2 a b) : zwl (fX4_sellOne T k0 x1 S) (fun q0 => q0.2.2 a b = S0.2 a b) := by
  unfold fX4_sellOne
  refine zwl_t (fun r1 => ?_)
  refine zwl_i ?_ ?_
  · exact zwl_r hS
  · refine zwl_sJn hS (fun S4 e1 => ?_)
    refine zwl_g ?_
    refine zwl_sJn e1 (fun S6 e2 => ?_)
    exact zwl_r e2
set_option maxHeartbeats 40000 in
set_option maxRecDepth 100000 in
theorem wJ_X4_halveOne_b19 {T : zT} {S S0 : zS} {a b : Nat}  (hS : S.2 a b = S0.2 a b) : zwl (fX4_halveOne_b19 T S) (fun q0 => q0.2.2 a b = S0.2 a b) := by
  unfold fX4_halveOne_b19
  exact zwl_r hS
set_option maxHeartbeats 40000 in
set_option maxRecDepth 100000 in
theorem wJ_X4_halveOne {T : zT} {k0 : Nat} {x1 : Int32} {x2 : Int32} {S S0 : zS} {a b : Nat}  (hS : S.2 a b = S0.2 a b) : zwl (fX4_halveOne T k0 x1 x2 S) (fun q0 => q0.2.2 a b = S0.2 a b) := by
  unfold fX4_halveOne
  refine zwl_t (fun r1 => ?_)
  refine zwl_i ?_ ?_
  · exact (wJ_X4_halveOne_b19  hS)
  · refine zwl_i ?_ ?_
    · refine zwl_t (fun r5 => ?_)
      refine zwl_v (fun u7 => ?_)
      refine zwl_i ?_ ?_
      · refine zwl_sJn hS (fun S9 e1 => ?_)
        refine zwl_sJn e1 (fun S10 e2 => ?_)
        refine zwl_g ?_
        refine zwl_sJn e2 (fun S12 e3 => ?_)
        refine zwl_g ?_
        refine zwl_g ?_
        refine zwl_sJn e3 (fun S15 e4 => ?_)
        refine zwl_g ?_
        refine zwl_sJn e4 (fun S17 e5 => ?_)
        exact zwl_r e5
      · exact zwl_r hS
    · exact (wJ_X4_halveOne_b19  hS)
set_option maxHeartbeats 40000 in
set_option maxRecDepth 100000 in
theorem wJ_X5_pass_b63 {T : zT} {k0 : Nat} {k1 : Nat} {n1 : Nat} {x2 : Int32} {k4 : Nat} {n4 : Nat} {x5 : Int32} {x6 : Int32} {S S0 : zS} {a b : Nat}  (hS : S.2 a b = S0.2 a b) : zwl (fX5_pass_b63 T k0 k1 n1 x2 k4 n4 x5 x6 S) (Sum.elim (fun q1 => q1.2.2 a b = S0.2 a b) (fun q1 => q1.2 a b = S0.2 a b)) := by
  unfold fX5_pass_b63
  refine zwl_v (fun u6 => ?_)
  exact zwl_r hS
set_option maxHeartbeats 40000 in
set_option maxRecDepth 100000 in
theorem wJ_X5_pass_l27 {T : zT} {k0 : Nat} {k1 : Nat} {n1 : Nat} {x2 : Int32} {k4 : Nat} {n4 : Nat} {x5 : Int32} {x6 : Int32} {S S0 : zS} {a b : Nat}  (hS : S.2 a b = S0.2 a b) : zwl (fX5_pass_l27 T k0 k1 n1 x2 k4 n4 x5 x6 S) (Sum.elim (fun q1 => q1.2.2 a b = S0.2 a b) (fun q1 => q1.2 a b = S0.2 a b)) := by
  unfold fX5_pass_l27
  refine zwl_i ?_ ?_
  · exact zwl_r hS
  · refine zwl_i ?_ ?_
    · exact (wJ_X5_pass_b63  hS)
    · refine zwl_t (fun r7 => ?_)
      refine zwl_b (wJ_X5_fetchAnywhere  hS) (fun r1 S11 e2 => ?_)
      exact (wJ_X5_pass_b63  e2)
set_option maxHeartbeats 40000 in
set_option maxRecDepth 100000 in
theorem wJ_X5_pass_b138 {T : zT} {k0 : Nat} {k1 : Nat} {n1 : Nat} {k4 : Nat} {n4 : Nat} {x6 : Int32} {x7 : Int32} {S S0 : zS} {a b : Nat}  (hS : S.2 a b = S0.2 a b) : zwl (fX5_pass_b138 T k0 k1 n1 k4 n4 x6 x7 S) (Sum.elim (fun q1 => q1.2.2 a b = S0.2 a b) (fun q1 => q1.2 a b = S0.2 a b)) := by
  unfold fX5_pass_b138
  refine zwl_v (fun u19 => ?_)
  exact zwl_r hS
set_option maxHeartbeats 40000 in
set_option maxRecDepth 100000 in
theorem wJ_X5_pass_l79 {T : zT} {k0 : Nat} {k1 : Nat} {n1 : Nat} {k4 : Nat} {n4 : Nat} {x6 : Int32} {x7 : Int32} {S S0 : zS} {a b : Nat}  (hS : S.2 a b = S0.2 a b) : zwl (fX5_pass_l79 T k0 k1 n1 k4 n4 x6 x7 S) (Sum.elim (fun q1 => q1.2.2 a b = S0.2 a b) (fun q1 => q1.2 a b = S0.2 a b)) := by
  unfold fX5_pass_l79
  refine zwl_i ?_ ?_
  · exact zwl_r hS
  · refine zwl_i ?_ ?_
    · exact zwl_r hS
    · refine zwl_i ?_ ?_
      · exact zwl_r hS
      · refine zwl_g ?_
        refine zwl_i ?_ ?_
        · exact (wJ_X5_pass_b138  hS)
        · refine zwl_g ?_
          refine zwl_g ?_
          refine zwl_v (fun u22 => ?_)
          refine zwl_g ?_
          refine zwl_sJn hS (fun S24 e1 => ?_)
          exact (wJ_X5_pass_b138  e1)
set_option maxHeartbeats 40000 in
set_option maxRecDepth 100000 in
theorem wJ_X5_pass_b144 {T : zT} {S S0 : zS} {a b : Nat}  (hS : S.2 a b = S0.2 a b) : zwl (fX5_pass_b144 T S) (fun q0 => q0.2.2 a b = S0.2 a b) := by
  unfold fX5_pass_b144
  exact zwl_r hS
set_option maxHeartbeats 40000 in
set_option maxRecDepth 100000 in
theorem wJ_X5_pass {T : zT} {k0 : Nat} {k1 : Nat} {n1 : Nat} {x2 : Int32} {x3 : Int32} {k4 : Nat} {n4 : Nat} {S S0 : zS} {a b : Nat}  (hS : S.2 a b = S0.2 a b) : zwl (fX5_pass T k0 k1 n1 x2 x3 k4 n4 S) (fun q0 => q0.2.2 a b = S0.2 a b) := by
  unfold fX5_pass
  refine zwl_t (fun r1 => ?_)
  refine zwl_v (fun u3 => ?_)
  refine zwl_b1 (zwl_lp (I := (fun q0 => q0.2.2 a b = S0.2 a b)) (Q := (fun q0 => q0.2 a b = S0.2 a b)) (fun a e3 => (wJ_X5_pass_l27  e3)) hS) (fun e12 e1 => ?_)
  refine zwl_v (fun u13 => ?_)
  refine zwl_b1 (zwl_lp (I := (fun q0 => q0.2.2 a b = S0.2 a b)) (Q := (fun q0 => q0.2 a b = S0.2 a b)) (fun a e6 => (wJ_X5_pass_l79  e6)) e1) (fun e25 e4 => ?_)
  exact (wJ_X5_pass_b144  e4)
set_option maxHeartbeats 40000 in
set_option maxRecDepth 100000 in
theorem wJ_X6_startClause_b34 {T : zT} {k0 : Nat} {S S0 : zS} {a b : Nat}  (hS : S.2 a b = S0.2 a b) : zwl (fX6_startClause_b34 T k0 S) (fun q0 => q0.2.2 a b = S0.2 a b) := by
  unfold fX6_startClause_b34
  refine zwl_b (wJ_X6_fail  hS) (fun r1 S8 e2 => ?_)
  exact zwl_r e2
set_option maxHeartbeats 40000 in
set_option maxRecDepth 100000 in
theorem wJ_X6_startClause_b60 {T : zT} {k0 : Nat} {x2 : Int32} {S S0 : zS} {a b : Nat}  (hS : S.2 a b = S0.2 a b) : zwl (fX6_startClause_b60 T k0 x2 S) (fun q0 => q0.2.2 a b = S0.2 a b) := by
  unfold fX6_startClause_b60
  refine zwl_b (wJ_X6_next  hS) (fun r1 S15 e2 => ?_)
  exact zwl_r e2
set_option maxHeartbeats 40000 in
set_option maxRecDepth 100000 in
theorem wJ_X6_startClause {T : zT} {k0 : Nat} {x1 : Int32} {S S0 : zS} {a b : Nat}  (hS : S.2 a b = S0.2 a b) : zwl (fX6_startClause T k0 x1 S) (fun q0 => q0.2.2 a b = S0.2 a b) := by
  unfold fX6_startClause
  refine zwl_v (fun u1 => ?_)
  refine zwl_t (fun r2 => ?_)
  refine zwl_i ?_ ?_
  · refine zwl_b (wJ_X6_fail  hS) (fun r1 S19 e2 => ?_)
    exact zwl_r e2
  · refine zwl_i ?_ ?_
    · refine zwl_i ?_ ?_
      · refine zwl_t (fun r10 => ?_)
        refine zwl_i ?_ ?_
        · exact (wJ_X6_startClause_b60  hS)
        · refine zwl_sJn hS (fun S16 e3 => ?_)
          exact (wJ_X6_startClause_b60  e3)
      · exact (wJ_X6_startClause_b34  hS)
    · exact (wJ_X6_startClause_b34  hS)
set_option maxHeartbeats 40000 in
set_option maxRecDepth 100000 in
theorem wJ_X6_isAtEnd_b16 {T : zT} {S S0 : zS} {a b : Nat}  (hS : S.2 a b = S0.2 a b) : zwl (fX6_isAtEnd_b16 T S) (fun q0 => q0.2.2 a b = S0.2 a b) := by
  unfold fX6_isAtEnd_b16
  exact zwl_r hS
set_option maxHeartbeats 40000 in
set_option maxRecDepth 100000 in
theorem wJ_X6_isAtEnd {T : zT} {k0 : Nat} {S S0 : zS} {a b : Nat}  (hS : S.2 a b = S0.2 a b) : zwl (fX6_isAtEnd T k0 S) (fun q0 => q0.2.2 a b = S0.2 a b) := by
  unfold fX6_isAtEnd
  refine zwl_i ?_ ?_
  · refine zwl_i ?_ ?_
    · exact (wJ_X6_isAtEnd_b16  hS)
    · refine zwl_b (wJ_X6_expect  hS) (fun r1 S5 e2 => ?_)
      exact zwl_r e2
  · exact (wJ_X6_isAtEnd_b16  hS)
set_option maxHeartbeats 40000 in
set_option maxRecDepth 100000 in
theorem wJ_X6_readExtra_b10 {T : zT} {S S0 : zS} {a b : Nat}  (hS : S.2 a b = S0.2 a b) : zwl (fX6_readExtra_b10 T S) (fun q0 => q0.2.2 a b = S0.2 a b) := by
  unfold fX6_readExtra_b10
  exact zwl_r hS
set_option maxHeartbeats 40000 in
set_option maxRecDepth 100000 in
theorem wJ_X6_readExtra_b93 {T : zT} {S S0 : zS} {a b : Nat}  (hS : S.2 a b = S0.2 a b) : zwl (fX6_readExtra_b93 T S) (fun q0 => q0.2.2 a b = S0.2 a b) := by
  unfold fX6_readExtra_b93
  exact zwl_r hS
set_option maxHeartbeats 40000 in
set_option maxRecDepth 100000 in
theorem wJ_X6_readExtra {T : zT} {k0 : Nat} {k1 : Nat} {x2 : Int32} {x3 : Int32} {S S0 : zS} {a b : Nat}  (hS : S.2 a b = S0.2 a b) : zwl (fX6_readExtra T k0 k1 x2 x3 S) (fun q0 => q0.2.2 a b = S0.2 a b) := by
  unfold fX6_readExtra
  refine zwl_i ?_ ?_
  · exact (wJ_X6_readExtra_b10  hS)
  · refine zwl_i ?_ ?_
    · refine zwl_i ?_ ?_
      · refine zwl_b (wJ_X6_number  hS) (fun r21 S23 e1 => ?_)
        refine zwl_g ?_
        refine zwl_sJn e1 (fun S25 e2 => ?_)
        exact (wJ_X6_readExtra_b93  e2)
      · refine zwl_i ?_ ?_
        · refine zwl_b (wJ_X6_number  hS) (fun r16 S18 e3 => ?_)
          refine zwl_g ?_
          refine zwl_sJn e3 (fun S20 e4 => ?_)
          exact (wJ_X6_readExtra_b93  e4)
        · refine zwl_i ?_ ?_
          · refine zwl_b (wJ_X6_number  hS) (fun r11 S13 e5 => ?_)
            refine zwl_g ?_
            refine zwl_sJn e5 (fun S15 e6 => ?_)
            exact (wJ_X6_readExtra_b93  e6)
          · refine zwl_b (wJ_X6_number  hS) (fun r6 S8 e7 => ?_)
            refine zwl_g ?_
            refine zwl_sJn e7 (fun S10 e8 => ?_)
            exact (wJ_X6_readExtra_b93  e8)
    · exact (wJ_X6_readExtra_b10  hS)
set_option maxHeartbeats 40000 in
set_option maxRecDepth 100000 in
theorem wJ_X6_readCousin {T : zT} {k0 : Nat} {k1 : Nat} {S S0 : zS} {a b : Nat}  (hS : S.2 a b = S0.2 a b) : zwl (fX6_readCousin T k0 k1 S) (fun q0 => q0.2.2 a b = S0.2 a b) := by
  unfold fX6_readCousin
  refine zwl_b (wJ_X6_number  hS) (fun r1 S3 e1 => ?_)
  refine zwl_sJn e1 (fun S4 e2 => ?_)
  refine zwl_b (wJ_X6_expect  e2) (fun r3 S7 e4 => ?_)
  refine zwl_b (wJ_X6_number  e4) (fun r8 S10 e5 => ?_)
  refine zwl_sJn e5 (fun S11 e6 => ?_)
  exact zwl_r e6
set_option maxHeartbeats 40000 in
set_option maxRecDepth 100000 in
theorem wJ_X6_readSum_b50 {T : zT} {k0 : Nat} {x1 : Int32} {x2 : Int32} {x3 : Int32} {S S0 : zS} {a b : Nat}  (hS : S.2 a b = S0.2 a b) : zwl (fX6_readSum_b50 T k0 x1 x2 x3 S) (Sum.elim (fun q1 => q1.2.2 a b = S0.2 a b) (fun q1 => q1.2 a b = S0.2 a b)) := by
  unfold fX6_readSum_b50
  refine zwl_v (fun u8 => ?_)
  refine zwl_b (wJ_X6_next  hS) (fun r1 S11 e2 => ?_)
  refine zwl_b (wJ_X6_readValue  e2) (fun r3 S14 e4 => ?_)
  refine zwl_b (wJ_X2_add  e4) (fun r5 S17 e6 => ?_)
  refine zwl_v (fun u18 => ?_)
  exact zwl_r e6
set_option maxHeartbeats 40000 in
set_option maxRecDepth 100000 in
theorem wJ_X6_readSum_l25 {T : zT} {k0 : Nat} {x1 : Int32} {x2 : Int32} {x3 : Int32} {S S0 : zS} {a b : Nat}  (hS : S.2 a b = S0.2 a b) : zwl (fX6_readSum_l25 T k0 x1 x2 x3 S) (Sum.elim (fun q1 => q1.2.2 a b = S0.2 a b) (fun q1 => q1.2 a b = S0.2 a b)) := by
  unfold fX6_readSum_l25
  refine zwl_i ?_ ?_
  · exact zwl_r hS
  · refine zwl_i ?_ ?_
    · exact (wJ_X6_readSum_b50  hS)
    · refine zwl_i ?_ ?_
      · exact (wJ_X6_readSum_b50  hS)
      · exact zwl_r hS
set_option maxHeartbeats 40000 in
set_option maxRecDepth 100000 in
theorem wJ_X6_readSum_b114 {T : zT} {k0 : Nat} {x2 : Int32} {S S0 : zS} {a b : Nat}  (hS : S.2 a b = S0.2 a b) : zwl (fX6_readSum_b114 T k0 x2 S) (Sum.elim (fun q1 => q1.2.2.2 a b = S0.2 a b) (Sum.elim (fun q2 => q2.2 a b = S0.2 a b) (fun q2 => q2.2 a b = S0.2 a b))) := by
  unfold fX6_readSum_b114
  refine zwl_v (fun u23 => ?_)
  refine zwl_b (wJ_X6_next  hS) (fun r1 S26 e2 => ?_)
  refine zwl_v (fun u27 => ?_)
  exact zwl_r e2
set_option maxHeartbeats 40000 in
set_option maxRecDepth 100000 in
theorem wJ_X6_readSum_b95 {T : zT} {k0 : Nat} {x2 : Int32} {S S0 : zS} {a b : Nat}  (hS : S.2 a b = S0.2 a b) : zwl (fX6_readSum_b95 T k0 x2 S) (Sum.elim (fun q1 => q1.2.2.2 a b = S0.2 a b) (Sum.elim (fun q2 => q2.2 a b = S0.2 a b) (fun q2 => q2.2 a b = S0.2 a b))) := by
  unfold fX6_readSum_b95
  refine zwl_i ?_ ?_
  · exact (wJ_X6_readSum_b114  hS)
  · refine zwl_i ?_ ?_
    · exact (wJ_X6_readSum_b114  hS)
    · exact zwl_r hS
set_option maxHeartbeats 40000 in
set_option maxRecDepth 100000 in
theorem wJ_X6_readSum_b80 {T : zT} {k0 : Nat} {x1 : Int32} {x2 : Int32} {S S0 : zS} {a b : Nat}  (hS : S.2 a b = S0.2 a b) : zwl (fX6_readSum_b80 T k0 x1 x2 S) (Sum.elim (fun q1 => q1.2.2.2 a b = S0.2 a b) (Sum.elim (fun q2 => q2.2 a b = S0.2 a b) (fun q2 => q2.2 a b = S0.2 a b))) := by
  unfold fX6_readSum_b80
  refine zwl_i ?_ ?_
  · exact (wJ_X6_readSum_b95  hS)
  · refine zwl_b (wJ_X2_add  hS) (fun r1 S31 e2 => ?_)
    exact (wJ_X6_readSum_b95  e2)
set_option maxHeartbeats 40000 in
set_option maxRecDepth 100000 in
theorem wJ_X6_readSum_l5 {T : zT} {k0 : Nat} {x1 : Int32} {x2 : Int32} {S S0 : zS} {a b : Nat}  (hS : S.2 a b = S0.2 a b) : zwl (fX6_readSum_l5 T k0 x1 x2 S) (Sum.elim (fun q1 => q1.2.2.2 a b = S0.2 a b) (Sum.elim (fun q2 => q2.2 a b = S0.2 a b) (fun q2 => q2.2 a b = S0.2 a b))) := by
  unfold fX6_readSum_l5
  refine zwl_i ?_ ?_
  · exact zwl_r hS
  · refine zwl_i ?_ ?_
    · refine zwl_b (wJ_X6_readValue  hS) (fun r1 S5 e2 => ?_)
      refine zwl_b1 (zwl_lp (I := (fun q0 => q0.2.2 a b = S0.2 a b)) (Q := (fun q0 => q0.2 a b = S0.2 a b)) (fun a e5 => (wJ_X6_readSum_l25  e5)) e2) (fun e20 e3 => ?_)
      exact (wJ_X6_readSum_b80  e3)
    · exact zwl_r hS
set_option maxHeartbeats 40000 in
set_option maxRecDepth 100000 in
theorem wJ_X6_readSum_b129 {T : zT} {S S0 : zS} {a b : Nat}  (hS : S.2 a b = S0.2 a b) : zwl (fX6_readSum_b129 T S) (fun q0 => q0.2.2 a b = S0.2 a b) := by
  unfold fX6_readSum_b129
  exact zwl_r hS
set_option maxHeartbeats 40000 in
set_option maxRecDepth 100000 in
theorem wJ_X6_readSum {T : zT} {k0 : Nat} {S S0 : zS} {a b : Nat}  (hS : S.2 a b = S0.2 a b) : zwl (fX6_readSum T k0 S) (fun q0 => q0.2.2 a b = S0.2 a b) := by
  unfold fX6_readSum
  refine zwl_b1 (zwl_lp (I := (fun q0 => q0.2.2.2 a b = S0.2 a b)) (Q := (Sum.elim (fun q1 => q1.2 a b = S0.2 a b) (fun q1 => q1.2 a b = S0.2 a b))) (fun a e3 => (wJ_X6_readSum_l5  e3)) hS) (fun e34 e1 => ?_)
  refine zwl_m e1 (fun e34_0 e4 => ?_) (fun e34_1 e5 => ?_)
  · exact (wJ_X6_readSum_b129  e4)
  · exact zwl_r e5
set_option maxHeartbeats 40000 in
set_option maxRecDepth 100000 in
theorem wJ_X8_valueIn_l2 {T : zT} {k0 : Nat} {k1 : Nat} {x2 : Int32} {S S0 : zS} {a b : Nat} (h0 : ¬ a = zr T k1 1) (hS : S.2 a b = S0.2 a b) : zwl (fX8_valueIn_l2 T k0 k1 x2 S) (Sum.elim (fun q1 => q1.2.2 a b = S0.2 a b) (Sum.elim (fun q2 => q2.2 a b = S0.2 a b) (fun q2 => q2.2.2 a b = S0.2 a b))) := by
  unfold fX8_valueIn_l2
  refine zwl_i ?_ ?_
  · exact zwl_r hS
  · refine zwl_i ?_ ?_
    · exact zwl_r hS
    · refine zwl_g ?_
      refine zwl_i ?_ ?_
      · exact zwl_r hS
      · refine zwl_g ?_
        refine zwl_b (wJ_X9_valueAt h0 hS) (fun r6 S8 e1 => ?_)
        refine zwl_i ?_ ?_
        · refine zwl_v (fun u10 => ?_)
          exact zwl_r e1
        · exact zwl_r e1
set_option maxHeartbeats 40000 in
set_option maxRecDepth 100000 in
theorem wJ_X8_valueIn_b66 {T : zT} {S S0 : zS} {a b : Nat}  (hS : S.2 a b = S0.2 a b) : zwl (fX8_valueIn_b66 T S) (fun q0 => q0.2.2 a b = S0.2 a b) := by
  unfold fX8_valueIn_b66
  exact zwl_r hS
set_option maxHeartbeats 40000 in
set_option maxRecDepth 100000 in
theorem wJ_X8_valueIn_b45 {T : zT} {k0 : Nat} {k1 : Nat} {x2 : Int32} {S S0 : zS} {a b : Nat} (h0 : ¬ a = zr T k1 1) (hS : S.2 a b = S0.2 a b) : zwl (fX8_valueIn_b45 T k0 k1 x2 S) (fun q0 => q0.2.2 a b = S0.2 a b) := by
  unfold fX8_valueIn_b45
  refine zwl_g ?_
  refine zwl_b (wJ_X9_valueAt h0 hS) (fun r13 S15 e1 => ?_)
  exact zwl_r e1
set_option maxHeartbeats 40000 in
set_option maxRecDepth 100000 in
theorem wJ_X8_valueIn {T : zT} {k0 : Nat} {k1 : Nat} {S S0 : zS} {a b : Nat} (h0 : ¬ a = zr T k1 1) (hS : S.2 a b = S0.2 a b) : zwl (fX8_valueIn T k0 k1 S) (fun q0 => q0.2.2 a b = S0.2 a b) := by
  unfold fX8_valueIn
  refine zwl_b1 (zwl_lp (I := (fun q0 => q0.2.2 a b = S0.2 a b)) (Q := (Sum.elim (fun q1 => q1.2 a b = S0.2 a b) (fun q1 => q1.2.2 a b = S0.2 a b))) (fun a e3 => (wJ_X8_valueIn_l2 h0 e3)) hS) (fun e11 e1 => ?_)
  refine zwl_m e1 (fun e11_0 e4 => ?_) (fun e11_1 e5 => ?_)
  · exact (wJ_X8_valueIn_b66  e4)
  · exact (wJ_X8_valueIn_b45 h0 e5)
set_option maxHeartbeats 40000 in
set_option maxRecDepth 100000 in
theorem wJ_X12_digits_b58 {T : zT} {k0 : Nat} {x1 : Int32} {x2 : Int32} {s0 : Int32} {S S0 : zS} {a b : Nat}  (hS : S.2 a b = S0.2 a b) : zwl (fX12_digits_b58 T k0 x1 x2 s0 S) (Sum.elim (fun q1 => q1.2.2 a b = S0.2 a b) (fun q1 => q1.2.2 a b = S0.2 a b)) := by
  unfold fX12_digits_b58
  refine zwl_sJn hS (fun S9 e1 => ?_)
  exact zwl_r e1
set_option maxHeartbeats 40000 in
set_option maxRecDepth 100000 in
theorem wJ_X12_digits_l25 {T : zT} {k0 : Nat} {x1 : Int32} {x2 : Int32} {x3 : Int32} {S S0 : zS} {a b : Nat}  (hS : S.2 a b = S0.2 a b) : zwl (fX12_digits_l25 T k0 x1 x2 x3 S) (Sum.elim (fun q1 => q1.2.2 a b = S0.2 a b) (fun q1 => q1.2.2 a b = S0.2 a b)) := by
  unfold fX12_digits_l25
  refine zwl_t (fun r5 => ?_)
  refine zwl_i ?_ ?_
  · exact zwl_r hS
  · refine zwl_i ?_ ?_
    · exact (wJ_X12_digits_b58  hS)
    · refine zwl_t (fun r10 => ?_)
      exact (wJ_X12_digits_b58  hS)
set_option maxHeartbeats 40000 in
set_option maxRecDepth 100000 in
theorem wJ_X12_digits_b93 {T : zT} {x3 : Int32} {S S0 : zS} {a b : Nat}  (hS : S.2 a b = S0.2 a b) : zwl (fX12_digits_b93 T x3 S) (fun q0 => q0.2.2 a b = S0.2 a b) := by
  unfold fX12_digits_b93
  exact zwl_r hS
set_option maxHeartbeats 40000 in
set_option maxRecDepth 100000 in
theorem wJ_X12_digits_b87 {T : zT} {k0 : Nat} {x2 : Int32} {x3 : Int32} {S S0 : zS} {a b : Nat}  (hS : S.2 a b = S0.2 a b) : zwl (fX12_digits_b87 T k0 x2 x3 S) (fun q0 => q0.2.2 a b = S0.2 a b) := by
  unfold fX12_digits_b87
  refine zwl_b (wJ_X12_fails  hS) (fun r1 S16 e2 => ?_)
  exact (wJ_X12_digits_b93  e2)
set_option maxHeartbeats 40000 in
set_option maxRecDepth 100000 in
theorem wJ_X12_digits {T : zT} {k0 : Nat} {x1 : Int32} {S S0 : zS} {a b : Nat}  (hS : S.2 a b = S0.2 a b) : zwl (fX12_digits T k0 x1 S) (fun q0 => q0.2.2 a b = S0.2 a b) := by
  unfold fX12_digits
  refine zwl_t (fun r1 => ?_)
  refine zwl_i ?_ ?_
  · refine zwl_b (wJ_X12_fails  hS) (fun r1 S22 e2 => ?_)
    exact zwl_r e2
  · refine zwl_v (fun u4 => ?_)
    refine zwl_b1 (zwl_lp (I := (fun q0 => q0.2.2 a b = S0.2 a b)) (Q := (fun q0 => q0.2.2 a b = S0.2 a b)) (fun a e5 => (wJ_X12_digits_l25  e5)) hS) (fun e12 e3 => ?_)
    refine zwl_i ?_ ?_
    · exact (wJ_X12_digits_b87  e3)
    · refine zwl_i ?_ ?_
      · exact (wJ_X12_digits_b93  e3)
      · exact (wJ_X12_digits_b87  e3)
set_option maxHeartbeats 40000 in
set_option maxRecDepth 100000 in
theorem wJ_X12_letter_b86 {T : zT} {s0 : Int32} {S S0 : zS} {a b : Nat}  (hS : S.2 a b = S0.2 a b) : zwl (fX12_letter_b86 T s0 S) (fun q0 => q0.2.2 a b = S0.2 a b) := by
  unfold fX12_letter_b86
  exact zwl_r hS
set_option maxHeartbeats 40000 in
set_option maxRecDepth 100000 in
theorem wJ_X12_letter_b85 {T : zT} {S S0 : zS} {a b : Nat}  (hS : S.2 a b = S0.2 a b) : zwl (fX12_letter_b85 T S) (fun q0 => q0.2.2 a b = S0.2 a b) := by
  unfold fX12_letter_b85
  exact (wJ_X12_letter_b86  hS)
set_option maxHeartbeats 40000 in
set_option maxRecDepth 100000 in
theorem wJ_X12_letter_b59 {T : zT} {x1 : Int32} {s0 : Int32} {S S0 : zS} {a b : Nat}  (hS : S.2 a b = S0.2 a b) : zwl (fX12_letter_b59 T x1 s0 S) (fun q0 => q0.2.2 a b = S0.2 a b) := by
  unfold fX12_letter_b59
  refine zwl_t (fun r7 => ?_)
  refine zwl_i ?_ ?_
  · exact (wJ_X12_letter_b85  hS)
  · refine zwl_i ?_ ?_
    · exact (wJ_X12_letter_b86  hS)
    · exact (wJ_X12_letter_b85  hS)
set_option maxHeartbeats 40000 in
set_option maxRecDepth 100000 in
theorem wJ_X12_letter_b58 {T : zT} {x1 : Int32} {S S0 : zS} {a b : Nat}  (hS : S.2 a b = S0.2 a b) : zwl (fX12_letter_b58 T x1 S) (fun q0 => q0.2.2 a b = S0.2 a b) := by
  unfold fX12_letter_b58
  exact (wJ_X12_letter_b59  hS)
set_option maxHeartbeats 40000 in
set_option maxRecDepth 100000 in
theorem wJ_X12_letter {T : zT} {k0 : Nat} {S S0 : zS} {a b : Nat}  (hS : S.2 a b = S0.2 a b) : zwl (fX12_letter T k0 S) (fun q0 => q0.2.2 a b = S0.2 a b) := by
  unfold fX12_letter
  refine zwl_b (wJ_X12_blanks  hS) (fun r1 S3 e2 => ?_)
  refine zwl_t (fun r4 => ?_)
  refine zwl_i ?_ ?_
  · exact (wJ_X12_letter_b58  e2)
  · refine zwl_g ?_
    refine zwl_i ?_ ?_
    · exact (wJ_X12_letter_b58  e2)
    · refine zwl_g ?_
      refine zwl_i ?_ ?_
      · exact (wJ_X12_letter_b58  e2)
      · exact (wJ_X12_letter_b59  e2)
set_option maxHeartbeats 40000 in
set_option maxRecDepth 100000 in
theorem wJ_X12_answer_b147 {T : zT} {k0 : Nat} {x1 : Int32} {x3 : Int32} {x4 : Int32} {x5 : Int32} {S S0 : zS} {a b : Nat}  (hS : S.2 a b = S0.2 a b) : zwl (fX12_answer_b147 T k0 x1 x3 x4 x5 S) (Sum.elim (fun q1 => q1.2.2.2 a b = S0.2 a b) (fun q1 => q1.2 a b = S0.2 a b)) := by
  unfold fX12_answer_b147
  refine zwl_v (fun u12 => ?_)
  exact zwl_r hS
set_option maxHeartbeats 40000 in
set_option maxRecDepth 100000 in
theorem wJ_X12_answer_b77 {T : zT} {k0 : Nat} {x1 : Int32} {x3 : Int32} {x4 : Int32} {x5 : Int32} {s0 : Int64} {s1 : Int32} {s2 : Nat} {m2 : Nat} {S S0 : zS} {a b : Nat} (h0 : ¬ a = s2) (hS : S.2 a b = S0.2 a b) : zwl (fX12_answer_b77 T k0 x1 x3 x4 x5 s0 s1 s2 m2 S) (Sum.elim (fun q1 => q1.2.2.2 a b = S0.2 a b) (fun q1 => q1.2 a b = S0.2 a b)) := by
  unfold fX12_answer_b77
  refine zwl_g ?_
  refine zwl_sJa h0 hS (fun S10 e1 => ?_)
  refine zwl_v (fun u11 => ?_)
  exact (wJ_X12_answer_b147  e1)
set_option maxHeartbeats 40000 in
set_option maxRecDepth 100000 in
theorem wJ_X12_answer_b53 {T : zT} {k0 : Nat} {x1 : Int32} {x3 : Int32} {x4 : Int32} {x5 : Int32} {x6 : Int32} {x7 : Int32} {S S0 : zS} {a b : Nat} (h0 : ¬ a = zr T k0 35) (hS : S.2 a b = S0.2 a b) : zwl (fX12_answer_b53 T k0 x1 x3 x4 x5 x6 x7 S) (Sum.elim (fun q1 => q1.2.2.2 a b = S0.2 a b) (fun q1 => q1.2 a b = S0.2 a b)) := by
  unfold fX12_answer_b53
  refine zwl_i ?_ ?_
  · exact (wJ_X12_answer_b77 h0 hS)
  · refine zwl_g ?_
    exact (wJ_X12_answer_b77 h0 hS)
set_option maxHeartbeats 40000 in
set_option maxRecDepth 100000 in
theorem wJ_X12_answer_l6 {T : zT} {k0 : Nat} {x1 : Int32} {x3 : Int32} {x4 : Int32} {x5 : Int32} {S S0 : zS} {a b : Nat} (h0 : ¬ a = zr T k0 35) (hS : S.2 a b = S0.2 a b) : zwl (fX12_answer_l6 T k0 x1 x3 x4 x5 S) (Sum.elim (fun q1 => q1.2.2.2 a b = S0.2 a b) (fun q1 => q1.2 a b = S0.2 a b)) := by
  unfold fX12_answer_l6
  refine zwl_i ?_ ?_
  · exact zwl_r hS
  · refine zwl_g ?_
    refine zwl_v (fun u3 => ?_)
    refine zwl_g ?_
    refine zwl_v (fun u5 => ?_)
    refine zwl_i ?_ ?_
    · exact (wJ_X12_answer_b53 h0 hS)
    · refine zwl_i ?_ ?_
      · exact (wJ_X12_answer_b53 h0 hS)
      · refine zwl_i ?_ ?_
        · refine zwl_g ?_
          refine zwl_g ?_
          refine zwl_sJa h0 hS (fun S24 e1 => ?_)
          exact (wJ_X12_answer_b147  e1)
        · refine zwl_v (fun u15 => ?_)
          refine zwl_g ?_
          refine zwl_g ?_
          refine zwl_t (fun r18 => ?_)
          refine zwl_g ?_
          refine zwl_sJa h0 hS (fun S21 e2 => ?_)
          exact (wJ_X12_answer_b147  e2)
set_option maxHeartbeats 40000 in
set_option maxRecDepth 100000 in
theorem wJ_X12_answer {T : zT} {k0 : Nat} {x1 : Int32} {x2 : Int32} {x3 : Int32} {S S0 : zS} {a b : Nat} (h0 : ¬ a = zr T k0 35) (hS : S.2 a b = S0.2 a b) : zwl (fX12_answer T k0 x1 x2 x3 S) (fun q0 => q0.2.2 a b = S0.2 a b) := by
  unfold fX12_answer
  refine zwl_b1 (zwl_lp (I := (fun q0 => q0.2.2.2 a b = S0.2 a b)) (Q := (fun q0 => q0.2 a b = S0.2 a b)) (fun a e3 => (wJ_X12_answer_l6 h0 e3)) hS) (fun e25 e1 => ?_)
  refine zwl_g ?_
  exact zwl_r e1
set_option maxHeartbeats 40000 in
set_option maxRecDepth 100000 in
theorem wJ_X12_act_b70 {T : zT} {S S0 : zS} {a b : Nat}  (hS : S.2 a b = S0.2 a b) : zwl (fX12_act_b70 T S) (fun q0 => q0.2.2 a b = S0.2 a b) := by
  unfold fX12_act_b70
  exact zwl_r hS
set_option maxHeartbeats 40000 in
set_option maxRecDepth 100000 in
theorem wJ_X12_act_b72 {T : zT} {k0 : Nat} {x1 : Int32} {x2 : Int32} {x3 : Int32} {S S0 : zS} {a b : Nat}  (hS : S.2 a b = S0.2 a b) : zwl (fX12_act_b72 T k0 x1 x2 x3 S) (fun q0 => q0.2.2 a b = S0.2 a b) := by
  unfold fX12_act_b72
  refine zwl_g ?_
  refine zwl_sJn hS (fun S14 e1 => ?_)
  refine zwl_g ?_
  refine zwl_sJn e1 (fun S16 e2 => ?_)
  refine zwl_g ?_
  refine zwl_sJn e2 (fun S18 e3 => ?_)
  refine zwl_sJn e3 (fun S19 e4 => ?_)
  exact zwl_r e4
set_option maxHeartbeats 40000 in
set_option maxRecDepth 100000 in
theorem wJ_X12_act_b38 {T : zT} {k0 : Nat} {x1 : Int32} {x2 : Int32} {x3 : Int32} {S S0 : zS} {a b : Nat}  (hS : S.2 a b = S0.2 a b) : zwl (fX12_act_b38 T k0 x1 x2 x3 S) (fun q0 => q0.2.2 a b = S0.2 a b) := by
  unfold fX12_act_b38
  refine zwl_t (fun r6 => ?_)
  refine zwl_i ?_ ?_
  · exact (wJ_X12_act_b70  hS)
  · refine zwl_i ?_ ?_
    · refine zwl_i ?_ ?_
      · exact (wJ_X12_act_b72  hS)
      · exact (wJ_X12_act_b70  hS)
    · refine zwl_t (fun r10 => ?_)
      refine zwl_i ?_ ?_
      · exact (wJ_X12_act_b70  hS)
      · exact (wJ_X12_act_b72  hS)
set_option maxHeartbeats 40000 in
set_option maxRecDepth 100000 in
theorem wJ_X12_act {T : zT} {k0 : Nat} {x1 : Int32} {x2 : Int32} {x3 : Int32} {S S0 : zS} {a b : Nat}  (hS : S.2 a b = S0.2 a b) : zwl (fX12_act T k0 x1 x2 x3 S) (fun q0 => q0.2.2 a b = S0.2 a b) := by
  unfold fX12_act
  refine zwl_i ?_ ?_
  · exact (wJ_X12_act_b70  hS)
  · refine zwl_t (fun r2 => ?_)
    refine zwl_i ?_ ?_
    · exact (wJ_X12_act_b70  hS)
    · refine zwl_i ?_ ?_
      · exact (wJ_X12_act_b38  hS)
      · refine zwl_g ?_
        refine zwl_i ?_ ?_
        · exact (wJ_X12_act_b70  hS)
        · exact (wJ_X12_act_b38  hS)
set_option maxHeartbeats 40000 in
set_option maxRecDepth 100000 in
theorem wJ_X12_image {T : zT} {k0 : Nat} {x1 : Int32} {S S0 : zS} {a b : Nat}  (hS : S.2 a b = S0.2 a b) : zwl (fX12_image T k0 x1 S) (fun q0 => q0.2.2 a b = S0.2 a b) := by
  unfold fX12_image
  refine zwl_t (fun r1 => ?_)
  refine zwl_i ?_ ?_
  · exact zwl_r hS
  · refine zwl_g ?_
    refine zwl_sJn hS (fun S5 e1 => ?_)
    refine zwl_sJn e1 (fun S6 e2 => ?_)
    refine zwl_b (wJ_X12_carries  e2) (fun r3 S9 e4 => ?_)
    exact zwl_r e4
set_option maxHeartbeats 40000 in
set_option maxRecDepth 100000 in
theorem wJ_X12_back_b21 {T : zT} {S S0 : zS} {a b : Nat}  (hS : S.2 a b = S0.2 a b) : zwl (fX12_back_b21 T S) (fun q0 => q0.2.2 a b = S0.2 a b) := by
  unfold fX12_back_b21
  exact zwl_r hS
set_option maxHeartbeats 40000 in
set_option maxRecDepth 100000 in
theorem wJ_X12_back {T : zT} {k0 : Nat} {x1 : Int32} {S S0 : zS} {a b : Nat}  (hS : S.2 a b = S0.2 a b) : zwl (fX12_back T k0 x1 S) (fun q0 => q0.2.2 a b = S0.2 a b) := by
  unfold fX12_back
  refine zwl_t (fun r1 => ?_)
  refine zwl_i ?_ ?_
  · exact (wJ_X12_back_b21  hS)
  · refine zwl_g ?_
    refine zwl_i ?_ ?_
    · exact (wJ_X12_back_b21  hS)
    · refine zwl_sJn hS (fun S6 e1 => ?_)
      refine zwl_b (wJ_X12_carries  e1) (fun r2 S9 e3 => ?_)
      exact zwl_r e3
set_option maxHeartbeats 40000 in
set_option maxRecDepth 100000 in
theorem wJ_X0_earnings {T : zT} {k0 : Nat} {k1 : Nat} {x2 : Int32} {x3 : Int32} {x4 : Int32} {S S0 : zS} {a b : Nat} (h0 : ¬ a = zr T k1 0) (h1 : ¬ a = zr T k1 1) (hS : S.2 a b = S0.2 a b) : zwl (fX0_earnings T k0 k1 x2 x3 x4 S) (fun q0 => q0.2.2 a b = S0.2 a b) := by
  unfold fX0_earnings
  refine zwl_b (wJ_X9_place h0 hS) (fun r1 S3 e2 => ?_)
  refine zwl_b (wJ_X1_holding h1 e2) (fun r4 S6 e3 => ?_)
  refine zwl_t (fun r7 => ?_)
  exact zwl_r e3
set_option maxHeartbeats 40000 in
set_option maxRecDepth 100000 in
theorem wJ_X0_needing {T : zT} {k0 : Nat} {k1 : Nat} {x2 : Int32} {x3 : Int32} {x4 : Int32} {S S0 : zS} {a b : Nat} (h0 : ¬ a = zr T k1 0) (h1 : ¬ a = zr T k1 1) (hS : S.2 a b = S0.2 a b) : zwl (fX0_needing T k0 k1 x2 x3 x4 S) (fun q0 => q0.2.2 a b = S0.2 a b) := by
  unfold fX0_needing
  refine zwl_b (wJ_X9_place h0 hS) (fun r1 S3 e2 => ?_)
  refine zwl_b (wJ_X1_holding h1 e2) (fun r4 S6 e3 => ?_)
  refine zwl_t (fun r7 => ?_)
  exact zwl_r e3
set_option maxHeartbeats 40000 in
set_option maxRecDepth 100000 in
theorem wJ_X4_doAct {T : zT} {k0 : Nat} {x1 : Int32} {x2 : Int32} {x3 : Int32} {S S0 : zS} {a b : Nat}  (hS : S.2 a b = S0.2 a b) : zwl (fX4_doAct T k0 x1 x2 x3 S) (fun q0 => q0.2.2 a b = S0.2 a b) := by
  unfold fX4_doAct
  refine zwl_i ?_ ?_
  · refine zwl_b (wJ_X4_fetchOne  hS) (fun r2 S4 e1 => ?_)
    refine zwl_g ?_
    exact zwl_r e1
  · refine zwl_i ?_ ?_
    · refine zwl_b (wJ_X4_putOne  hS) (fun r7 S9 e2 => ?_)
      refine zwl_g ?_
      exact zwl_r e2
    · refine zwl_i ?_ ?_
      · refine zwl_b (wJ_X4_sellOne  hS) (fun r12 S14 e3 => ?_)
        refine zwl_g ?_
        exact zwl_r e3
      · refine zwl_i ?_ ?_
        · refine zwl_b (wJ_X4_halveOne  hS) (fun r17 S19 e4 => ?_)
          refine zwl_g ?_
          exact zwl_r e4
        · refine zwl_i ?_ ?_
          · refine zwl_b (wJ_X4_borrowOnce  hS) (fun r22 S24 e5 => ?_)
            refine zwl_g ?_
            exact zwl_r e5
          · exact zwl_r hS
set_option maxHeartbeats 40000 in
set_option maxRecDepth 100000 in
theorem wJ_X5_fillHolding_l10 {T : zT} {k0 : Nat} {x1 : Int32} {x2 : Int32} {x3 : Int32} {S S0 : zS} {a b : Nat} (h0 : ¬ a = zr T (zr T k0 1) 0) (h1 : ¬ a = zr T (zr T k0 1) 1) (hS : S.2 a b = S0.2 a b) : zwl (fX5_fillHolding_l10 T k0 x1 x2 x3 S) (Sum.elim (fun q1 => q1.2.2 a b = S0.2 a b) (fun q1 => q1.2 a b = S0.2 a b)) := by
  unfold fX5_fillHolding_l10
  refine zwl_i ?_ ?_
  · exact zwl_r hS
  · refine zwl_g ?_
    refine zwl_sJa h0 hS (fun S4 e1 => ?_)
    refine zwl_g ?_
    refine zwl_sJa h0 e1 (fun S6 e2 => ?_)
    refine zwl_g ?_
    refine zwl_sJa h0 e2 (fun S8 e3 => ?_)
    refine zwl_b (wJ_X1_holding h1 e3) (fun r9 S11 e4 => ?_)
    refine zwl_g ?_
    refine zwl_sJn e4 (fun S13 e5 => ?_)
    refine zwl_b (wJ_X1_holding h1 e5) (fun r14 S16 e6 => ?_)
    refine zwl_g ?_
    refine zwl_sJn e6 (fun S18 e7 => ?_)
    refine zwl_v (fun u19 => ?_)
    exact zwl_r e7
set_option maxHeartbeats 40000 in
set_option maxRecDepth 100000 in
theorem wJ_X5_fillHolding_l2 {T : zT} {k0 : Nat} {x1 : Int32} {x2 : Int32} {S S0 : zS} {a b : Nat} (h0 : ¬ a = zr T (zr T k0 1) 0) (h1 : ¬ a = zr T (zr T k0 1) 1) (hS : S.2 a b = S0.2 a b) : zwl (fX5_fillHolding_l2 T k0 x1 x2 S) (Sum.elim (fun q1 => q1.2.2 a b = S0.2 a b) (fun q1 => q1.2 a b = S0.2 a b)) := by
  unfold fX5_fillHolding_l2
  refine zwl_i ?_ ?_
  · exact zwl_r hS
  · refine zwl_b1 (zwl_lp (I := (fun q0 => q0.2.2 a b = S0.2 a b)) (Q := (fun q0 => q0.2 a b = S0.2 a b)) (fun a e3 => (wJ_X5_fillHolding_l10 h0 h1 e3)) hS) (fun e20 e1 => ?_)
    refine zwl_v (fun u21 => ?_)
    exact zwl_r e1
set_option maxHeartbeats 40000 in
set_option maxRecDepth 100000 in
theorem wJ_X5_fillHolding {T : zT} {k0 : Nat} {x1 : Int32} {S S0 : zS} {a b : Nat} (h0 : ¬ a = zr T (zr T k0 1) 0) (h1 : ¬ a = zr T (zr T k0 1) 1) (hS : S.2 a b = S0.2 a b) : zwl (fX5_fillHolding T k0 x1 S) (fun q0 => q0.2.2 a b = S0.2 a b) := by
  unfold fX5_fillHolding
  refine zwl_b1 (zwl_lp (I := (fun q0 => q0.2.2 a b = S0.2 a b)) (Q := (fun q0 => q0.2 a b = S0.2 a b)) (fun a e3 => (wJ_X5_fillHolding_l2 h0 h1 e3)) hS) (fun e24 e1 => ?_)
  exact zwl_r e1
set_option maxHeartbeats 40000 in
set_option maxRecDepth 100000 in
theorem wJ_X5_tracePlan_l2 {T : zT} {k0 : Nat} {x1 : Int32} {S S0 : zS} {a b : Nat}  (hS : S.2 a b = S0.2 a b) : zwl (fX5_tracePlan_l2 T k0 x1 S) (Sum.elim (fun q1 => q1.2.2 a b = S0.2 a b) (fun q1 => q1.2 a b = S0.2 a b)) := by
  unfold fX5_tracePlan_l2
  refine zwl_i ?_ ?_
  · exact zwl_r hS
  · refine zwl_g ?_
    refine zwl_sJn hS (fun S3 e1 => ?_)
    refine zwl_v (fun u4 => ?_)
    exact zwl_r e1
set_option maxHeartbeats 40000 in
set_option maxRecDepth 100000 in
theorem wJ_X5_tracePlan_b103 {T : zT} {k0 : Nat} {x2 : Int32} {x3 : Int32} {x4 : Int32} {x5 : Int32} {S S0 : zS} {a b : Nat}  (hS : S.2 a b = S0.2 a b) : zwl (fX5_tracePlan_b103 T k0 x2 x3 x4 x5 S) (Sum.elim (fun q1 => q1.2.2 a b = S0.2 a b) (fun q1 => q1.2 a b = S0.2 a b)) := by
  unfold fX5_tracePlan_b103
  refine zwl_v (fun u17 => ?_)
  exact zwl_r hS
set_option maxHeartbeats 40000 in
set_option maxRecDepth 100000 in
theorem wJ_X5_tracePlan_l78 {T : zT} {k0 : Nat} {x2 : Int32} {x3 : Int32} {x4 : Int32} {x5 : Int32} {S S0 : zS} {a b : Nat}  (hS : S.2 a b = S0.2 a b) : zwl (fX5_tracePlan_l78 T k0 x2 x3 x4 x5 S) (Sum.elim (fun q1 => q1.2.2 a b = S0.2 a b) (fun q1 => q1.2 a b = S0.2 a b)) := by
  unfold fX5_tracePlan_l78
  refine zwl_i ?_ ?_
  · exact zwl_r hS
  · refine zwl_i ?_ ?_
    · exact (wJ_X5_tracePlan_b103  hS)
    · refine zwl_g ?_
      refine zwl_sJn hS (fun S19 e1 => ?_)
      exact (wJ_X5_tracePlan_b103  e1)
set_option maxHeartbeats 40000 in
set_option maxRecDepth 100000 in
theorem wJ_X5_tracePlan_b67 {T : zT} {k0 : Nat} {x1 : Int32} {x2 : Int32} {s0 : Int32} {S S0 : zS} {a b : Nat}  (hS : S.2 a b = S0.2 a b) : zwl (fX5_tracePlan_b67 T k0 x1 x2 s0 S) (Sum.elim (fun q1 => q1.2.2.2 a b = S0.2 a b) (fun q1 => q1.2 a b = S0.2 a b)) := by
  unfold fX5_tracePlan_b67
  refine zwl_v (fun u14 => ?_)
  refine zwl_b1 (zwl_lp (I := (fun q0 => q0.2.2 a b = S0.2 a b)) (Q := (fun q0 => q0.2 a b = S0.2 a b)) (fun a e3 => (wJ_X5_tracePlan_l78  e3)) hS) (fun e20 e1 => ?_)
  refine zwl_v (fun u21 => ?_)
  exact zwl_r e1
set_option maxHeartbeats 40000 in
set_option maxRecDepth 100000 in
theorem wJ_X5_tracePlan_l49 {T : zT} {k0 : Nat} {x1 : Int32} {x2 : Int32} {S S0 : zS} {a b : Nat}  (hS : S.2 a b = S0.2 a b) : zwl (fX5_tracePlan_l49 T k0 x1 x2 S) (Sum.elim (fun q1 => q1.2.2.2 a b = S0.2 a b) (fun q1 => q1.2 a b = S0.2 a b)) := by
  unfold fX5_tracePlan_l49
  refine zwl_i ?_ ?_
  · exact zwl_r hS
  · refine zwl_i ?_ ?_
    · exact (wJ_X5_tracePlan_b67  hS)
    · refine zwl_t (fun r12 => ?_)
      exact (wJ_X5_tracePlan_b67  hS)
set_option maxHeartbeats 40000 in
set_option maxRecDepth 100000 in
theorem wJ_X5_tracePlan {T : zT} {k0 : Nat} {S S0 : zS} {a b : Nat}  (hS : S.2 a b = S0.2 a b) : zwl (fX5_tracePlan T k0 S) (fun q0 => q0.2.2 a b = S0.2 a b) := by
  unfold fX5_tracePlan
  refine zwl_b1 (zwl_lp (I := (fun q0 => q0.2.2 a b = S0.2 a b)) (Q := (fun q0 => q0.2 a b = S0.2 a b)) (fun a e3 => (wJ_X5_tracePlan_l2  e3)) hS) (fun e5 e1 => ?_)
  refine zwl_i ?_ ?_
  · refine zwl_v (fun u7 => ?_)
    refine zwl_v (fun u8 => ?_)
    refine zwl_v (fun u9 => ?_)
    refine zwl_b1 (zwl_lp (I := (fun q0 => q0.2.2.2 a b = S0.2 a b)) (Q := (fun q0 => q0.2 a b = S0.2 a b)) (fun a e6 => (wJ_X5_tracePlan_l49  e6)) e1) (fun e24 e4 => ?_)
    exact zwl_r e4
  · exact zwl_r e1
set_option maxHeartbeats 40000 in
set_option maxRecDepth 100000 in
theorem wJ_X5_hanging_l17 {T : zT} {k0 : Nat} {x1 : Int32} {x2 : Int32} {S S0 : zS} {a b : Nat}  (hS : S.2 a b = S0.2 a b) : zwl (fX5_hanging_l17 T k0 x1 x2 S) (Sum.elim (fun q1 => q1.2.2 a b = S0.2 a b) (fun q1 => q1.2 a b = S0.2 a b)) := by
  unfold fX5_hanging_l17
  refine zwl_i ?_ ?_
  · exact zwl_r hS
  · refine zwl_t (fun r5 => ?_)
    refine zwl_b (wJ_X5_pass  hS) (fun r1 S9 e2 => ?_)
    refine zwl_v (fun u10 => ?_)
    exact zwl_r e2
set_option maxHeartbeats 40000 in
set_option maxRecDepth 100000 in
theorem wJ_X5_hanging {T : zT} {k0 : Nat} {x1 : Int32} {S S0 : zS} {a b : Nat}  (hS : S.2 a b = S0.2 a b) : zwl (fX5_hanging T k0 x1 S) (fun q0 => q0.2.2 a b = S0.2 a b) := by
  unfold fX5_hanging
  refine zwl_b (wJ_X5_start  hS) (fun r1 S3 e2 => ?_)
  refine zwl_b1 (zwl_lp (I := (fun q0 => q0.2.2 a b = S0.2 a b)) (Q := (fun q0 => q0.2 a b = S0.2 a b)) (fun a e5 => (wJ_X5_hanging_l17  e5)) e2) (fun e11 e3 => ?_)
  refine zwl_t (fun r12 => ?_)
  refine zwl_v (fun u14 => ?_)
  exact zwl_r e3
set_option maxHeartbeats 40000 in
set_option maxRecDepth 100000 in
theorem wJ_X5_bestNeverPut_l37 {T : zT} {k0 : Nat} {x3 : Int32} {S S0 : zS} {a b : Nat}  (hS : S.2 a b = S0.2 a b) : zwl (fX5_bestNeverPut_l37 T k0 x3 S) (Sum.elim (fun q1 => q1.2.2 a b = S0.2 a b) (fun q1 => q1.2 a b = S0.2 a b)) := by
  unfold fX5_bestNeverPut_l37
  refine zwl_i ?_ ?_
  · exact zwl_r hS
  · refine zwl_b (wJ_X5_pass  hS) (fun r1 S10 e2 => ?_)
    refine zwl_v (fun u11 => ?_)
    exact zwl_r e2
set_option maxHeartbeats 40000 in
set_option maxRecDepth 100000 in
theorem wJ_X5_bestNeverPut {T : zT} {k0 : Nat} {x1 : Int32} {S S0 : zS} {a b : Nat}  (hS : S.2 a b = S0.2 a b) : zwl (fX5_bestNeverPut T k0 x1 S) (fun q0 => q0.2.2 a b = S0.2 a b) := by
  unfold fX5_bestNeverPut
  refine zwl_g ?_
  refine zwl_v (fun u2 => ?_)
  refine zwl_i ?_ ?_
  · refine zwl_b (wJ_X5_start  hS) (fun r1 S6 e2 => ?_)
    refine zwl_b1 (zwl_lp (I := (fun q0 => q0.2.2 a b = S0.2 a b)) (Q := (fun q0 => q0.2 a b = S0.2 a b)) (fun a e5 => (wJ_X5_bestNeverPut_l37  e5)) e2) (fun e12 e3 => ?_)
    refine zwl_t (fun r13 => ?_)
    exact zwl_r e3
  · exact zwl_r hS
set_option maxHeartbeats 40000 in
set_option maxRecDepth 100000 in
theorem wJ_X5_bestBorrowing_b15 {T : zT} {S S0 : zS} {a b : Nat}  (hS : S.2 a b = S0.2 a b) : zwl (fX5_bestBorrowing_b15 T S) (fun q0 => q0.2.2 a b = S0.2 a b) := by
  unfold fX5_bestBorrowing_b15
  exact zwl_r hS
set_option maxHeartbeats 40000 in
set_option maxRecDepth 100000 in
theorem wJ_X5_bestBorrowing_b120 {T : zT} {k0 : Nat} {x2 : Int32} {S S0 : zS} {a b : Nat}  (hS : S.2 a b = S0.2 a b) : zwl (fX5_bestBorrowing_b120 T k0 x2 S) (Sum.elim (fun q1 => q1.2.2 a b = S0.2 a b) (fun q1 => q1.2 a b = S0.2 a b)) := by
  unfold fX5_bestBorrowing_b120
  refine zwl_b (wJ_X5_pass  hS) (fun r1 S14 e2 => ?_)
  refine zwl_v (fun u15 => ?_)
  exact zwl_r e2
set_option maxHeartbeats 40000 in
set_option maxRecDepth 100000 in
theorem wJ_X5_bestBorrowing_l83 {T : zT} {k0 : Nat} {x2 : Int32} {S S0 : zS} {a b : Nat}  (hS : S.2 a b = S0.2 a b) : zwl (fX5_bestBorrowing_l83 T k0 x2 S) (Sum.elim (fun q1 => q1.2.2 a b = S0.2 a b) (fun q1 => q1.2 a b = S0.2 a b)) := by
  unfold fX5_bestBorrowing_l83
  refine zwl_i ?_ ?_
  · exact zwl_r hS
  · refine zwl_i ?_ ?_
    · refine zwl_b (wJ_X5_shift  hS) (fun r1 S18 e2 => ?_)
      exact (wJ_X5_bestBorrowing_b120  e2)
    · exact (wJ_X5_bestBorrowing_b120  hS)
set_option maxHeartbeats 40000 in
set_option maxRecDepth 100000 in
theorem wJ_X5_bestBorrowing_b67 {T : zT} {k0 : Nat} {x1 : Int32} {S S0 : zS} {a b : Nat}  (hS : S.2 a b = S0.2 a b) : zwl (fX5_bestBorrowing_b67 T k0 x1 S) (fun q0 => q0.2.2 a b = S0.2 a b) := by
  unfold fX5_bestBorrowing_b67
  refine zwl_b (wJ_X5_shift  hS) (fun r1 S9 e2 => ?_)
  refine zwl_b1 (zwl_lp (I := (fun q0 => q0.2.2 a b = S0.2 a b)) (Q := (fun q0 => q0.2 a b = S0.2 a b)) (fun a e5 => (wJ_X5_bestBorrowing_l83  e5)) e2) (fun e19 e3 => ?_)
  refine zwl_t (fun r20 => ?_)
  exact zwl_r e3
set_option maxHeartbeats 40000 in
set_option maxRecDepth 100000 in
theorem wJ_X5_bestBorrowing {T : zT} {k0 : Nat} {x1 : Int32} {S S0 : zS} {a b : Nat}  (hS : S.2 a b = S0.2 a b) : zwl (fX5_bestBorrowing T k0 x1 S) (fun q0 => q0.2.2 a b = S0.2 a b) := by
  unfold fX5_bestBorrowing
  refine zwl_i ?_ ?_
  · exact (wJ_X5_bestBorrowing_b15  hS)
  · refine zwl_t (fun r2 => ?_)
    refine zwl_i ?_ ?_
    · exact (wJ_X5_bestBorrowing_b15  hS)
    · refine zwl_i ?_ ?_
      · refine zwl_b (wJ_X5_start  hS) (fun r1 S28 e2 => ?_)
        exact (wJ_X5_bestBorrowing_b67  e2)
      · refine zwl_i ?_ ?_
        · exact (wJ_X5_bestBorrowing_b67  hS)
        · refine zwl_g ?_
          refine zwl_sJnC hS (fun S25 e3 => ?_)
          exact (wJ_X5_bestBorrowing_b67  e3)
set_option maxHeartbeats 40000 in
set_option maxRecDepth 100000 in
theorem wJ_X5_bestSellingFromLine_l34 {T : zT} {k0 : Nat} {x1 : Int32} {x3 : Int32} {S S0 : zS} {a b : Nat}  (hS : S.2 a b = S0.2 a b) : zwl (fX5_bestSellingFromLine_l34 T k0 x1 x3 S) (Sum.elim (fun q1 => q1.2.2 a b = S0.2 a b) (fun q1 => q1.2 a b = S0.2 a b)) := by
  unfold fX5_bestSellingFromLine_l34
  refine zwl_i ?_ ?_
  · exact zwl_r hS
  · refine zwl_t (fun r8 => ?_)
    refine zwl_b (wJ_X5_pass  hS) (fun r1 S12 e2 => ?_)
    refine zwl_v (fun u13 => ?_)
    exact zwl_r e2
set_option maxHeartbeats 40000 in
set_option maxRecDepth 100000 in
theorem wJ_X5_bestSellingFromLine {T : zT} {k0 : Nat} {x1 : Int32} {x2 : Int32} {S S0 : zS} {a b : Nat}  (hS : S.2 a b = S0.2 a b) : zwl (fX5_bestSellingFromLine T k0 x1 x2 S) (fun q0 => q0.2.2 a b = S0.2 a b) := by
  unfold fX5_bestSellingFromLine
  refine zwl_g ?_
  refine zwl_sJnC hS (fun S2 e1 => ?_)
  refine zwl_g ?_
  refine zwl_b (wJ_X5_shift  e1) (fun r2 S6 e3 => ?_)
  refine zwl_b1 (zwl_lp (I := (fun q0 => q0.2.2 a b = S0.2 a b)) (Q := (fun q0 => q0.2 a b = S0.2 a b)) (fun a e6 => (wJ_X5_bestSellingFromLine_l34  e6)) e3) (fun e14 e4 => ?_)
  refine zwl_t (fun r15 => ?_)
  exact zwl_r e4
set_option maxHeartbeats 40000 in
set_option maxRecDepth 100000 in
theorem wJ_X6_readThing_l79 {T : zT} {k0 : Nat} {k1 : Nat} {x2 : Int32} {x4 : Int32} {x5 : Int32} {S S0 : zS} {a b : Nat}  (hS : S.2 a b = S0.2 a b) : zwl (fX6_readThing_l79 T k0 k1 x2 x4 x5 S) (Sum.elim (fun q1 => q1.2.2.2 a b = S0.2 a b) (Sum.elim (fun q2 => q2.2 a b = S0.2 a b) (Sum.elim (fun q3 => q3.2 a b = S0.2 a b) (fun q3 => q3.2 a b = S0.2 a b)))) := by
  unfold fX6_readThing_l79
  refine zwl_i ?_ ?_
  · exact zwl_r hS
  · refine zwl_i ?_ ?_
    · refine zwl_v (fun u21 => ?_)
      refine zwl_i ?_ ?_
      · exact zwl_r hS
      · refine zwl_i ?_ ?_
        · refine zwl_i ?_ ?_
          · refine zwl_v (fun u25 => ?_)
            refine zwl_b (wJ_X6_next  hS) (fun r1 S28 e2 => ?_)
            refine zwl_b (wJ_X6_readExtra  e2) (fun r3 S31 e4 => ?_)
            refine zwl_v (fun u32 => ?_)
            exact zwl_r e4
          · exact zwl_r hS
        · exact zwl_r hS
    · exact zwl_r hS
set_option maxHeartbeats 40000 in
set_option maxRecDepth 100000 in
theorem wJ_X6_readThing_b158 {T : zT} {S S0 : zS} {a b : Nat}  (hS : S.2 a b = S0.2 a b) : zwl (fX6_readThing_b158 T S) (fun q0 => q0.2.2 a b = S0.2 a b) := by
  unfold fX6_readThing_b158
  exact zwl_r hS
set_option maxHeartbeats 40000 in
set_option maxRecDepth 100000 in
theorem wJ_X6_readThing_b114 {T : zT} {S S0 : zS} {a b : Nat}  (hS : S.2 a b = S0.2 a b) : zwl (fX6_readThing_b114 T S) (fun q0 => q0.2.2 a b = S0.2 a b) := by
  unfold fX6_readThing_b114
  exact zwl_r hS
set_option maxHeartbeats 40000 in
set_option maxRecDepth 100000 in
theorem wJ_X6_readThing {T : zT} {k0 : Nat} {k1 : Nat} {S S0 : zS} {a b : Nat}  (hS : S.2 a b = S0.2 a b) : zwl (fX6_readThing T k0 k1 S) (fun q0 => q0.2.2 a b = S0.2 a b) := by
  unfold fX6_readThing
  refine zwl_i ?_ ?_
  · refine zwl_v (fun u2 => ?_)
    refine zwl_t (fun r3 => ?_)
    refine zwl_i ?_ ?_
    · refine zwl_b (wJ_X6_next  hS) (fun r1 S8 e2 => ?_)
      refine zwl_sJn e2 (fun S9 e3 => ?_)
      refine zwl_b (wJ_X6_number  e3) (fun r10 S12 e4 => ?_)
      refine zwl_b (wJ_X6_number  e4) (fun r13 S15 e5 => ?_)
      refine zwl_b (wJ_X0_tellThing  e5) (fun r6 S18 e7 => ?_)
      refine zwl_b1 (zwl_lp (I := (fun q0 => q0.2.2.2 a b = S0.2 a b)) (Q := (Sum.elim (fun q1 => q1.2 a b = S0.2 a b) (Sum.elim (fun q2 => q2.2 a b = S0.2 a b) (fun q2 => q2.2 a b = S0.2 a b)))) (fun a e10 => (wJ_X6_readThing_l79  e10)) e7) (fun e33 e8 => ?_)
      refine zwl_m e8 (fun e33_0 e11 => ?_) (fun e33r1 e12 => ?_)
      · exact (wJ_X6_readThing_b158  e11)
      · refine zwl_m e12 (fun e33_1 e13 => ?_) (fun e33_2 e14 => ?_)
        · exact (wJ_X6_readThing_b114  e13)
        · refine zwl_b (wJ_X6_fail  e14) (fun r15 S36 e16 => ?_)
          exact zwl_r e16
    · refine zwl_b (wJ_X6_fail  hS) (fun r17 S41 e18 => ?_)
      exact zwl_r e18
  · refine zwl_b (wJ_X6_fail  hS) (fun r19 S44 e20 => ?_)
    exact zwl_r e20
set_option maxHeartbeats 40000 in
set_option maxRecDepth 100000 in
theorem wJ_X11_image_b9 {T : zT} {S S0 : zS} {a b : Nat}  (hS : S.2 a b = S0.2 a b) : zwl (fX11_image_b9 T S) (fun q0 => q0.2.2 a b = S0.2 a b) := by
  unfold fX11_image_b9
  exact zwl_r hS
set_option maxHeartbeats 40000 in
set_option maxRecDepth 100000 in
theorem wJ_X11_image {T : zT} {k0 : Nat} {x1 : Int32} {S S0 : zS} {a b : Nat}  (hS : S.2 a b = S0.2 a b) : zwl (fX11_image T k0 x1 S) (fun q0 => q0.2.2 a b = S0.2 a b) := by
  unfold fX11_image
  refine zwl_i ?_ ?_
  · exact (wJ_X11_image_b9  hS)
  · refine zwl_i ?_ ?_
    · refine zwl_g ?_
      refine zwl_b (wJ_X0_take  hS) (fun r1 S6 e2 => ?_)
      refine zwl_g ?_
      refine zwl_b (wJ_X7_take  e2) (fun r3 S10 e4 => ?_)
      refine zwl_g ?_
      refine zwl_sJn e4 (fun S12 e5 => ?_)
      exact zwl_r e5
    · exact (wJ_X11_image_b9  hS)
set_option maxHeartbeats 40000 in
set_option maxRecDepth 100000 in
theorem wJ_X11_back_b18 {T : zT} {S S0 : zS} {a b : Nat}  (hS : S.2 a b = S0.2 a b) : zwl (fX11_back_b18 T S) (fun q0 => q0.2.2 a b = S0.2 a b) := by
  unfold fX11_back_b18
  exact zwl_r hS
set_option maxHeartbeats 40000 in
set_option maxRecDepth 100000 in
theorem wJ_X11_back {T : zT} {k0 : Nat} {x1 : Int32} {S S0 : zS} {a b : Nat}  (hS : S.2 a b = S0.2 a b) : zwl (fX11_back T k0 x1 S) (fun q0 => q0.2.2 a b = S0.2 a b) := by
  unfold fX11_back
  refine zwl_i ?_ ?_
  · exact (wJ_X11_back_b18  hS)
  · refine zwl_i ?_ ?_
    · exact (wJ_X11_back_b18  hS)
    · refine zwl_g ?_
      refine zwl_i ?_ ?_
      · exact (wJ_X11_back_b18  hS)
      · refine zwl_g ?_
        refine zwl_b (wJ_X0_take  hS) (fun r1 S8 e2 => ?_)
        refine zwl_g ?_
        refine zwl_b (wJ_X7_take  e2) (fun r3 S12 e4 => ?_)
        refine zwl_sJn e4 (fun S13 e5 => ?_)
        exact zwl_r e5
set_option maxHeartbeats 40000 in
set_option maxRecDepth 100000 in
theorem wJ_X12_amount_b46 {T : zT} {x4 : Int32} {S S0 : zS} {a b : Nat}  (hS : S.2 a b = S0.2 a b) : zwl (fX12_amount_b46 T x4 S) (fun q0 => q0.2.2 a b = S0.2 a b) := by
  unfold fX12_amount_b46
  exact zwl_r hS
set_option maxHeartbeats 40000 in
set_option maxRecDepth 100000 in
theorem wJ_X12_amount_b25 {T : zT} {k0 : Nat} {x1 : Int32} {x3 : Int32} {s0 : Int32} {S S0 : zS} {a b : Nat}  (hS : S.2 a b = S0.2 a b) : zwl (fX12_amount_b25 T k0 x1 x3 s0 S) (fun q0 => q0.2.2 a b = S0.2 a b) := by
  unfold fX12_amount_b25
  refine zwl_i ?_ ?_
  · refine zwl_i ?_ ?_
    · exact (wJ_X12_amount_b46  hS)
    · refine zwl_b (wJ_X12_fails  hS) (fun r1 S10 e2 => ?_)
      exact (wJ_X12_amount_b46  e2)
  · exact (wJ_X12_amount_b46  hS)
set_option maxHeartbeats 40000 in
set_option maxRecDepth 100000 in
theorem wJ_X12_amount {T : zT} {k0 : Nat} {x1 : Int32} {x2 : Int32} {S S0 : zS} {a b : Nat}  (hS : S.2 a b = S0.2 a b) : zwl (fX12_amount T k0 x1 x2 S) (fun q0 => q0.2.2 a b = S0.2 a b) := by
  unfold fX12_amount
  refine zwl_b (wJ_X12_blanks  hS) (fun r1 S3 e2 => ?_)
  refine zwl_v (fun u4 => ?_)
  refine zwl_i ?_ ?_
  · refine zwl_b (wJ_X12_digits  e2) (fun r11 S13 e3 => ?_)
    exact (wJ_X12_amount_b25  e3)
  · exact (wJ_X12_amount_b25  e2)
set_option maxHeartbeats 40000 in
set_option maxRecDepth 100000 in
theorem wJ_X12_comes_b144 {T : zT} {k0 : Nat} {x1 : Int32} {x2 : Int32} {x6 : Int32} {s0 : Int32} {s1 : Int32} {S S0 : zS} {a b : Nat}  (hS : S.2 a b = S0.2 a b) : zwl (fX12_comes_b144 T k0 x1 x2 x6 s0 s1 S) (Sum.elim (fun q1 => q1.2.2.2 a b = S0.2 a b) (fun q1 => q1.2.2 a b = S0.2 a b)) := by
  unfold fX12_comes_b144
  refine zwl_v (fun u16 => ?_)
  refine zwl_v (fun u17 => ?_)
  exact zwl_r hS
set_option maxHeartbeats 40000 in
set_option maxRecDepth 100000 in
theorem wJ_X12_comes_b143 {T : zT} {k0 : Nat} {x1 : Int32} {x2 : Int32} {x6 : Int32} {s0 : Int32} {S S0 : zS} {a b : Nat}  (hS : S.2 a b = S0.2 a b) : zwl (fX12_comes_b143 T k0 x1 x2 x6 s0 S) (Sum.elim (fun q1 => q1.2.2.2 a b = S0.2 a b) (fun q1 => q1.2.2 a b = S0.2 a b)) := by
  unfold fX12_comes_b143
  exact (wJ_X12_comes_b144  hS)
set_option maxHeartbeats 40000 in
set_option maxRecDepth 100000 in
theorem wJ_X12_comes_b133 {T : zT} {k0 : Nat} {x1 : Int32} {x2 : Int32} {x6 : Int32} {s0 : Int32} {S S0 : zS} {a b : Nat}  (hS : S.2 a b = S0.2 a b) : zwl (fX12_comes_b133 T k0 x1 x2 x6 s0 S) (Sum.elim (fun q1 => q1.2.2.2 a b = S0.2 a b) (fun q1 => q1.2.2 a b = S0.2 a b)) := by
  unfold fX12_comes_b133
  refine zwl_g ?_
  exact (wJ_X12_comes_b144  hS)
set_option maxHeartbeats 40000 in
set_option maxRecDepth 100000 in
theorem wJ_X12_comes_b83 {T : zT} {k0 : Nat} {x1 : Int32} {x2 : Int32} {x5 : Int32} {x6 : Int32} {s0 : Int32} {S S0 : zS} {a b : Nat} (h0 : ¬ a = zr T k0 35) (hS : S.2 a b = S0.2 a b) : zwl (fX12_comes_b83 T k0 x1 x2 x5 x6 s0 S) (Sum.elim (fun q1 => q1.2.2.2 a b = S0.2 a b) (fun q1 => q1.2.2 a b = S0.2 a b)) := by
  unfold fX12_comes_b83
  refine zwl_i ?_ ?_
  · exact (wJ_X12_comes_b143  hS)
  · refine zwl_g ?_
    refine zwl_g ?_
    refine zwl_i ?_ ?_
    · exact (wJ_X12_comes_b133  hS)
    · refine zwl_g ?_
      refine zwl_g ?_
      refine zwl_b (wJ_X12_answer h0 hS) (fun r24 S26 e1 => ?_)
      refine zwl_i ?_ ?_
      · exact (wJ_X12_comes_b133  e1)
      · exact (wJ_X12_comes_b143  e1)
set_option maxHeartbeats 40000 in
set_option maxRecDepth 100000 in
theorem wJ_X12_comes_b82 {T : zT} {k0 : Nat} {x1 : Int32} {x2 : Int32} {x5 : Int32} {x6 : Int32} {S S0 : zS} {a b : Nat} (h0 : ¬ a = zr T k0 35) (hS : S.2 a b = S0.2 a b) : zwl (fX12_comes_b82 T k0 x1 x2 x5 x6 S) (Sum.elim (fun q1 => q1.2.2.2 a b = S0.2 a b) (fun q1 => q1.2.2 a b = S0.2 a b)) := by
  unfold fX12_comes_b82
  exact (wJ_X12_comes_b83 h0 hS)
set_option maxHeartbeats 40000 in
set_option maxRecDepth 100000 in
theorem wJ_X12_comes_b78 {T : zT} {k0 : Nat} {x1 : Int32} {x2 : Int32} {x5 : Int32} {x6 : Int32} {S S0 : zS} {a b : Nat} (h0 : ¬ a = zr T k0 35) (hS : S.2 a b = S0.2 a b) : zwl (fX12_comes_b78 T k0 x1 x2 x5 x6 S) (Sum.elim (fun q1 => q1.2.2.2 a b = S0.2 a b) (fun q1 => q1.2.2 a b = S0.2 a b)) := by
  unfold fX12_comes_b78
  exact (wJ_X12_comes_b83 h0 hS)
set_option maxHeartbeats 40000 in
set_option maxRecDepth 100000 in
theorem wJ_X12_comes_l37 {T : zT} {k0 : Nat} {x1 : Int32} {x2 : Int32} {x5 : Int32} {x6 : Int32} {S S0 : zS} {a b : Nat} (h0 : ¬ a = zr T k0 35) (hS : S.2 a b = S0.2 a b) : zwl (fX12_comes_l37 T k0 x1 x2 x5 x6 S) (Sum.elim (fun q1 => q1.2.2.2 a b = S0.2 a b) (fun q1 => q1.2.2 a b = S0.2 a b)) := by
  unfold fX12_comes_l37
  refine zwl_g ?_
  refine zwl_i ?_ ?_
  · exact zwl_r hS
  · refine zwl_g ?_
    refine zwl_i ?_ ?_
    · refine zwl_i ?_ ?_
      · exact (wJ_X12_comes_b78 h0 hS)
      · refine zwl_g ?_
        refine zwl_i ?_ ?_
        · exact (wJ_X12_comes_b78 h0 hS)
        · exact (wJ_X12_comes_b82 h0 hS)
    · exact (wJ_X12_comes_b82 h0 hS)
set_option maxHeartbeats 40000 in
set_option maxRecDepth 100000 in
theorem wJ_X12_comes {T : zT} {k0 : Nat} {x1 : Int32} {x2 : Int32} {x3 : Int32} {x4 : Int32} {S S0 : zS} {a b : Nat} (h0 : ¬ a = zr T k0 34) (h1 : ¬ a = zr T k0 35) (hS : S.2 a b = S0.2 a b) : zwl (fX12_comes T k0 x1 x2 x3 x4 S) (fun q0 => q0.2.2 a b = S0.2 a b) := by
  unfold fX12_comes
  refine zwl_g ?_
  refine zwl_sJa h0 hS (fun S2 e1 => ?_)
  refine zwl_t (fun r3 => ?_)
  refine zwl_g ?_
  refine zwl_sJa h0 e1 (fun S6 e2 => ?_)
  refine zwl_t (fun r7 => ?_)
  refine zwl_g ?_
  refine zwl_sJa h0 e2 (fun S10 e3 => ?_)
  refine zwl_b1 (zwl_lp (I := (fun q0 => q0.2.2.2 a b = S0.2 a b)) (Q := (fun q0 => q0.2.2 a b = S0.2 a b)) (fun a e6 => (wJ_X12_comes_l37 h1 e6)) e3) (fun e31 e4 => ?_)
  exact zwl_r e4
set_option maxHeartbeats 40000 in
set_option maxRecDepth 100000 in
theorem wJ_X4_endWeek_b106 {T : zT} {k0 : Nat} {x1 : Int32} {S S0 : zS} {a b : Nat}  (hS : S.2 a b = S0.2 a b) : zwl (fX4_endWeek_b106 T k0 x1 S) (fun q0 => q0.2.2 a b = S0.2 a b) := by
  unfold fX4_endWeek_b106
  refine zwl_sJn hS (fun S10 e1 => ?_)
  exact zwl_r e1
set_option maxHeartbeats 40000 in
set_option maxRecDepth 100000 in
theorem wJ_X4_endWeek_b35 {T : zT} {k0 : Nat} {x1 : Int32} {x3 : Int32} {S S0 : zS} {a b : Nat} (h0 : ¬ a = zr T (zr T k0 1) 0) (h1 : ¬ a = zr T (zr T k0 1) 1) (hS : S.2 a b = S0.2 a b) : zwl (fX4_endWeek_b35 T k0 x1 x3 S) (fun q0 => q0.2.2 a b = S0.2 a b) := by
  unfold fX4_endWeek_b35
  refine zwl_b (wJ_X0_needing h0 h1 hS) (fun r4 S6 e1 => ?_)
  refine zwl_i ?_ ?_
  · refine zwl_sJn e1 (fun S8 e2 => ?_)
    refine zwl_i ?_ ?_
    · exact (wJ_X4_endWeek_b106  e2)
    · refine zwl_g ?_
      refine zwl_sJn e2 (fun S12 e3 => ?_)
      refine zwl_g ?_
      refine zwl_sJn e3 (fun S14 e4 => ?_)
      exact (wJ_X4_endWeek_b106  e4)
  · refine zwl_sJn e1 (fun S15 e5 => ?_)
    exact zwl_r e5
set_option maxHeartbeats 40000 in
set_option maxRecDepth 100000 in
theorem wJ_X4_endWeek {T : zT} {k0 : Nat} {x1 : Int32} {x2 : Int32} {S S0 : zS} {a b : Nat} (h0 : ¬ a = zr T (zr T k0 1) 0) (h1 : ¬ a = zr T (zr T k0 1) 1) (hS : S.2 a b = S0.2 a b) : zwl (fX4_endWeek T k0 x1 x2 S) (fun q0 => q0.2.2 a b = S0.2 a b) := by
  unfold fX4_endWeek
  refine zwl_t (fun r1 => ?_)
  refine zwl_i ?_ ?_
  · exact (wJ_X4_endWeek_b35 h0 h1 hS)
  · refine zwl_b (wJ_X0_earnings h0 h1 hS) (fun r16 S18 e1 => ?_)
    refine zwl_sJn e1 (fun S19 e2 => ?_)
    exact (wJ_X4_endWeek_b35 h0 h1 e2)
set_option maxHeartbeats 40000 in
set_option maxRecDepth 100000 in
theorem wJ_X4_doActs_l3 {T : zT} {k0 : Nat} {k1 : Nat} {x3 : Int32} {x4 : Int32} {S S0 : zS} {a b : Nat}  (hS : S.2 a b = S0.2 a b) : zwl (fX4_doActs_l3 T k0 k1 x3 x4 S) (Sum.elim (fun q1 => q1.2.2 a b = S0.2 a b) (Sum.elim (fun q2 => q2.2 a b = S0.2 a b) (Sum.elim (fun q3 => q3.2.2 a b = S0.2 a b) (fun q3 => q3.2.2 a b = S0.2 a b)))) := by
  unfold fX4_doActs_l3
  refine zwl_i ?_ ?_
  · exact zwl_r hS
  · refine zwl_i ?_ ?_
    · exact zwl_r hS
    · refine zwl_i ?_ ?_
      · exact zwl_r hS
      · refine zwl_g ?_
        refine zwl_i ?_ ?_
        · refine zwl_g ?_
          refine zwl_g ?_
          refine zwl_b (wJ_X4_doAct  hS) (fun r8 S10 e1 => ?_)
          refine zwl_i ?_ ?_
          · exact zwl_r e1
          · refine zwl_v (fun u12 => ?_)
            exact zwl_r e1
        · exact zwl_r hS
set_option maxHeartbeats 40000 in
set_option maxRecDepth 100000 in
theorem wJ_X4_doActs_b75 {T : zT} {k1 : Nat} {S S0 : zS} {a b : Nat}  (hS : S.2 a b = S0.2 a b) : zwl (fX4_doActs_b75 T k1 S) (fun q0 => q0.2.2 a b = S0.2 a b) := by
  unfold fX4_doActs_b75
  exact zwl_r hS
set_option maxHeartbeats 40000 in
set_option maxRecDepth 100000 in
theorem wJ_X4_doActs {T : zT} {k0 : Nat} {k1 : Nat} {x2 : Int32} {x3 : Int32} {S S0 : zS} {a b : Nat}  (hS : S.2 a b = S0.2 a b) : zwl (fX4_doActs T k0 k1 x2 x3 S) (fun q0 => q0.2.2 a b = S0.2 a b) := by
  unfold fX4_doActs
  refine zwl_b1 (zwl_lp (I := (fun q0 => q0.2.2 a b = S0.2 a b)) (Q := (Sum.elim (fun q1 => q1.2 a b = S0.2 a b) (Sum.elim (fun q2 => q2.2.2 a b = S0.2 a b) (fun q2 => q2.2.2 a b = S0.2 a b)))) (fun a e3 => (wJ_X4_doActs_l3  e3)) hS) (fun e13 e1 => ?_)
  refine zwl_m e1 (fun e13_0 e4 => ?_) (fun e13r1 e5 => ?_)
  · exact (wJ_X4_doActs_b75  e4)
  · refine zwl_m e5 (fun e13_1 e6 => ?_) (fun e13_2 e7 => ?_)
    · exact zwl_r e6
    · refine zwl_sJn e7 (fun S14 e8 => ?_)
      exact zwl_r e8
set_option maxHeartbeats 40000 in
set_option maxRecDepth 100000 in
theorem wJ_X4_liking_b10 {T : zT} {S S0 : zS} {a b : Nat}  (hS : S.2 a b = S0.2 a b) : zwl (fX4_liking_b10 T S) (fun q0 => q0.2.2 a b = S0.2 a b) := by
  unfold fX4_liking_b10
  exact zwl_r hS
set_option maxHeartbeats 40000 in
set_option maxRecDepth 100000 in
theorem wJ_X4_liking_b219 {T : zT} {k0 : Nat} {k1 : Nat} {S S0 : zS} {a b : Nat} (h0 : ¬ a = zr T (zr T k0 2) 1) (hS : S.2 a b = S0.2 a b) : zwl (fX4_liking_b219 T k0 k1 S) (fun q0 => q0.2.2 a b = S0.2 a b) := by
  unfold fX4_liking_b219
  refine zwl_b (wJ_X8_valueIn h0 hS) (fun r28 S30 e1 => ?_)
  exact zwl_r e1
set_option maxHeartbeats 40000 in
set_option maxRecDepth 100000 in
theorem wJ_X4_liking_b106 {T : zT} {k0 : Nat} {k1 : Nat} {x2 : Int32} {x3 : Int32} {x4 : Int32} {s0 : Int64} {s1 : Int32} {s2 : Nat} {m2 : Nat} {S S0 : zS} {a b : Nat} (h0 : ¬ a = s2) (h1 : ¬ a = zr T (zr T k0 2) 0) (h2 : ¬ a = zr T (zr T k0 2) 1) (h3 : ¬ a = zr T (zr T k0 1) 0) (h4 : ¬ a = zr T (zr T k0 1) 1) (hS : S.2 a b = S0.2 a b) : zwl (fX4_liking_b106 T k0 k1 x2 x3 x4 s0 s1 s2 m2 S) (fun q0 => q0.2.2 a b = S0.2 a b) := by
  unfold fX4_liking_b106
  refine zwl_g ?_
  refine zwl_sJa h0 hS (fun S19 e1 => ?_)
  refine zwl_g ?_
  refine zwl_g ?_
  refine zwl_sJa h1 e1 (fun S22 e2 => ?_)
  refine zwl_g ?_
  refine zwl_sJa h1 e2 (fun S24 e3 => ?_)
  refine zwl_t (fun r25 => ?_)
  refine zwl_i ?_ ?_
  · exact (wJ_X4_liking_b219 h2 e3)
  · refine zwl_v (fun u31 => ?_)
    refine zwl_b (wJ_X0_earnings h3 h4 e3) (fun r32 S34 e4 => ?_)
    refine zwl_b (wJ_X0_earnings h3 h4 e4) (fun r35 S37 e5 => ?_)
    refine zwl_g ?_
    refine zwl_sJa h1 e5 (fun S39 e6 => ?_)
    exact (wJ_X4_liking_b219 h2 e6)
set_option maxHeartbeats 40000 in
set_option maxRecDepth 100000 in
theorem wJ_X4_liking {T : zT} {k0 : Nat} {k1 : Nat} {x2 : Int32} {x3 : Int32} {S S0 : zS} {a b : Nat} (h0 : ¬ a = zr T (zr T k0 2) 0) (h1 : ¬ a = zr T (zr T k0 2) 1) (h2 : ¬ a = zr T (zr T k0 1) 0) (h3 : ¬ a = zr T (zr T k0 1) 1) (hS : S.2 a b = S0.2 a b) : zwl (fX4_liking T k0 k1 x2 x3 S) (fun q0 => q0.2.2 a b = S0.2 a b) := by
  unfold fX4_liking
  refine zwl_i ?_ ?_
  · exact (wJ_X4_liking_b10  hS)
  · refine zwl_i ?_ ?_
    · refine zwl_t (fun r3 => ?_)
      refine zwl_b (wJ_X9_place h0 hS) (fun r1 S7 e2 => ?_)
      refine zwl_t (fun r8 => ?_)
      refine zwl_g ?_
      refine zwl_sJa h0 e2 (fun S11 e3 => ?_)
      refine zwl_g ?_
      refine zwl_g ?_
      refine zwl_sJa h0 e3 (fun S14 e4 => ?_)
      refine zwl_g ?_
      refine zwl_i ?_ ?_
      · exact (wJ_X4_liking_b106 h0 h0 h1 h2 h3 e4)
      · refine zwl_g ?_
        exact (wJ_X4_liking_b106 h0 h0 h1 h2 h3 e4)
    · exact (wJ_X4_liking_b10  hS)
set_option maxHeartbeats 40000 in
set_option maxRecDepth 100000 in
theorem wJ_X5_fillGains_b169 {T : zT} {k0 : Nat} {k1 : Nat} {n1 : Nat} {x2 : Int32} {x3 : Int32} {x4 : Int32} {x5 : Int32} {S S0 : zS} {a b : Nat}  (hS : S.2 a b = S0.2 a b) : zwl (fX5_fillGains_b169 T k0 k1 n1 x2 x3 x4 x5 S) (Sum.elim (fun q1 => q1.2.2 a b = S0.2 a b) (fun q1 => q1.2 a b = S0.2 a b)) := by
  unfold fX5_fillGains_b169
  refine zwl_v (fun u18 => ?_)
  exact zwl_r hS
set_option maxHeartbeats 40000 in
set_option maxRecDepth 100000 in
theorem wJ_X5_fillGains_l37 {T : zT} {k0 : Nat} {k1 : Nat} {n1 : Nat} {x2 : Int32} {x3 : Int32} {x4 : Int32} {x5 : Int32} {S S0 : zS} {a b : Nat}  (hS : S.2 a b = S0.2 a b) : zwl (fX5_fillGains_l37 T k0 k1 n1 x2 x3 x4 x5 S) (Sum.elim (fun q1 => q1.2.2 a b = S0.2 a b) (fun q1 => q1.2 a b = S0.2 a b)) := by
  unfold fX5_fillGains_l37
  refine zwl_i ?_ ?_
  · exact zwl_r hS
  · refine zwl_i ?_ ?_
    · exact zwl_r hS
    · refine zwl_t (fun r10 => ?_)
      refine zwl_v (fun u12 => ?_)
      refine zwl_t (fun r13 => ?_)
      refine zwl_v (fun u15 => ?_)
      refine zwl_v (fun u16 => ?_)
      refine zwl_i ?_ ?_
      · exact (wJ_X5_fillGains_b169  hS)
      · refine zwl_t (fun r19 => ?_)
        refine zwl_i ?_ ?_
        · exact (wJ_X5_fillGains_b169  hS)
        · refine zwl_g ?_
          refine zwl_t (fun r23 => ?_)
          refine zwl_g ?_
          refine zwl_t (fun r26 => ?_)
          refine zwl_g ?_
          refine zwl_sJn hS (fun S29 e1 => ?_)
          exact (wJ_X5_fillGains_b169  e1)
set_option maxHeartbeats 40000 in
set_option maxRecDepth 100000 in
theorem wJ_X5_fillGains_b175 {T : zT} {k0 : Nat} {k1 : Nat} {n1 : Nat} {x2 : Int32} {x3 : Int32} {S S0 : zS} {a b : Nat}  (hS : S.2 a b = S0.2 a b) : zwl (fX5_fillGains_b175 T k0 k1 n1 x2 x3 S) (Sum.elim (fun q1 => q1.2.2 a b = S0.2 a b) (fun q1 => q1.2 a b = S0.2 a b)) := by
  unfold fX5_fillGains_b175
  refine zwl_v (fun u31 => ?_)
  exact zwl_r hS
set_option maxHeartbeats 40000 in
set_option maxRecDepth 100000 in
theorem wJ_X5_fillGains_l2 {T : zT} {k0 : Nat} {k1 : Nat} {n1 : Nat} {x2 : Int32} {x3 : Int32} {S S0 : zS} {a b : Nat} (h0 : ¬ a = zr T (zr T k0 1) 0) (h1 : ¬ a = zr T (zr T k0 1) 1) (hS : S.2 a b = S0.2 a b) : zwl (fX5_fillGains_l2 T k0 k1 n1 x2 x3 S) (Sum.elim (fun q1 => q1.2.2 a b = S0.2 a b) (fun q1 => q1.2 a b = S0.2 a b)) := by
  unfold fX5_fillGains_l2
  refine zwl_i ?_ ?_
  · exact zwl_r hS
  · refine zwl_i ?_ ?_
    · exact zwl_r hS
    · refine zwl_b (wJ_X5_fillHolding h0 h1 hS) (fun r1 S5 e2 => ?_)
      refine zwl_t (fun r6 => ?_)
      refine zwl_b1 (zwl_lp (I := (fun q0 => q0.2.2 a b = S0.2 a b)) (Q := (fun q0 => q0.2 a b = S0.2 a b)) (fun a e5 => (wJ_X5_fillGains_l37  e5)) e2) (fun e30 e3 => ?_)
      exact (wJ_X5_fillGains_b175  e3)
set_option maxHeartbeats 40000 in
set_option maxRecDepth 100000 in
theorem wJ_X5_fillGains_b181 {T : zT} {S S0 : zS} {a b : Nat}  (hS : S.2 a b = S0.2 a b) : zwl (fX5_fillGains_b181 T S) (fun q0 => q0.2.2 a b = S0.2 a b) := by
  unfold fX5_fillGains_b181
  exact zwl_r hS
set_option maxHeartbeats 40000 in
set_option maxRecDepth 100000 in
theorem wJ_X5_fillGains {T : zT} {k0 : Nat} {k1 : Nat} {n1 : Nat} {x2 : Int32} {S S0 : zS} {a b : Nat} (h0 : ¬ a = zr T (zr T k0 1) 0) (h1 : ¬ a = zr T (zr T k0 1) 1) (hS : S.2 a b = S0.2 a b) : zwl (fX5_fillGains T k0 k1 n1 x2 S) (fun q0 => q0.2.2 a b = S0.2 a b) := by
  unfold fX5_fillGains
  refine zwl_b1 (zwl_lp (I := (fun q0 => q0.2.2 a b = S0.2 a b)) (Q := (fun q0 => q0.2 a b = S0.2 a b)) (fun a e3 => (wJ_X5_fillGains_l2 h0 h1 e3)) hS) (fun e34 e1 => ?_)
  exact (wJ_X5_fillGains_b181  e1)
set_option maxHeartbeats 40000 in
set_option maxRecDepth 100000 in
theorem wJ_X5_keyThing_b85 {T : zT} {k0 : Nat} {x1 : Int32} {x2 : Int32} {x3 : Int32} {S S0 : zS} {a b : Nat}  (hS : S.2 a b = S0.2 a b) : zwl (fX5_keyThing_b85 T k0 x1 x2 x3 S) (Sum.elim (fun q1 => q1.2.2.2.2 a b = S0.2 a b) (fun q1 => q1.2.2 a b = S0.2 a b)) := by
  unfold fX5_keyThing_b85
  refine zwl_v (fun u5 => ?_)
  exact zwl_r hS
set_option maxHeartbeats 40000 in
set_option maxRecDepth 100000 in
theorem wJ_X5_keyThing_b80 {T : zT} {k0 : Nat} {x3 : Int32} {x4 : Int32} {S S0 : zS} {a b : Nat}  (hS : S.2 a b = S0.2 a b) : zwl (fX5_keyThing_b80 T k0 x3 x4 S) (Sum.elim (fun q1 => q1.2.2.2.2 a b = S0.2 a b) (fun q1 => q1.2.2 a b = S0.2 a b)) := by
  unfold fX5_keyThing_b80
  exact (wJ_X5_keyThing_b85  hS)
set_option maxHeartbeats 40000 in
set_option maxRecDepth 100000 in
theorem wJ_X5_keyThing_b46 {T : zT} {k0 : Nat} {x1 : Int32} {x2 : Int32} {x3 : Int32} {x4 : Int32} {s0 : Int32} {S S0 : zS} {a b : Nat}  (hS : S.2 a b = S0.2 a b) : zwl (fX5_keyThing_b46 T k0 x1 x2 x3 x4 s0 S) (Sum.elim (fun q1 => q1.2.2.2.2 a b = S0.2 a b) (fun q1 => q1.2.2 a b = S0.2 a b)) := by
  unfold fX5_keyThing_b46
  refine zwl_i ?_ ?_
  · refine zwl_i ?_ ?_
    · refine zwl_g ?_
      refine zwl_g ?_
      refine zwl_i ?_ ?_
      · exact (wJ_X5_keyThing_b85  hS)
      · exact (wJ_X5_keyThing_b80  hS)
    · exact (wJ_X5_keyThing_b85  hS)
  · exact (wJ_X5_keyThing_b80  hS)
set_option maxHeartbeats 40000 in
set_option maxRecDepth 100000 in
theorem wJ_X5_keyThing_b41 {T : zT} {k0 : Nat} {x1 : Int32} {x2 : Int32} {x3 : Int32} {x4 : Int32} {S S0 : zS} {a b : Nat}  (hS : S.2 a b = S0.2 a b) : zwl (fX5_keyThing_b41 T k0 x1 x2 x3 x4 S) (Sum.elim (fun q1 => q1.2.2.2.2 a b = S0.2 a b) (fun q1 => q1.2.2 a b = S0.2 a b)) := by
  unfold fX5_keyThing_b41
  exact (wJ_X5_keyThing_b46  hS)
set_option maxHeartbeats 40000 in
set_option maxRecDepth 100000 in
theorem wJ_X5_keyThing_l6 {T : zT} {k0 : Nat} {x1 : Int32} {x2 : Int32} {x3 : Int32} {S S0 : zS} {a b : Nat}  (hS : S.2 a b = S0.2 a b) : zwl (fX5_keyThing_l6 T k0 x1 x2 x3 S) (Sum.elim (fun q1 => q1.2.2.2.2 a b = S0.2 a b) (fun q1 => q1.2.2 a b = S0.2 a b)) := by
  unfold fX5_keyThing_l6
  refine zwl_i ?_ ?_
  · exact zwl_r hS
  · refine zwl_t (fun r2 => ?_)
    refine zwl_i ?_ ?_
    · exact (wJ_X5_keyThing_b85  hS)
    · refine zwl_b (wJ_X5_hanging  hS) (fun r6 S8 e1 => ?_)
      refine zwl_i ?_ ?_
      · exact (wJ_X5_keyThing_b41  e1)
      · refine zwl_i ?_ ?_
        · exact (wJ_X5_keyThing_b46  e1)
        · exact (wJ_X5_keyThing_b41  e1)
set_option maxHeartbeats 40000 in
set_option maxRecDepth 100000 in
theorem wJ_X5_keyThing {T : zT} {k0 : Nat} {S S0 : zS} {a b : Nat}  (hS : S.2 a b = S0.2 a b) : zwl (fX5_keyThing T k0 S) (fun q0 => q0.2.2 a b = S0.2 a b) := by
  unfold fX5_keyThing
  refine zwl_b1 (zwl_lp (I := (fun q0 => q0.2.2.2.2 a b = S0.2 a b)) (Q := (fun q0 => q0.2.2 a b = S0.2 a b)) (fun a e3 => (wJ_X5_keyThing_l6  e3)) hS) (fun e16 e1 => ?_)
  exact zwl_r e1
set_option maxHeartbeats 40000 in
set_option maxRecDepth 100000 in
theorem wJ_X5_borrowingWeek_b17 {T : zT} {s0 : Int32} {S S0 : zS} {a b : Nat}  (hS : S.2 a b = S0.2 a b) : zwl (fX5_borrowingWeek_b17 T s0 S) (fun q0 => q0.2.2 a b = S0.2 a b) := by
  unfold fX5_borrowingWeek_b17
  exact zwl_r hS
set_option maxHeartbeats 40000 in
set_option maxRecDepth 100000 in
theorem wJ_X5_borrowingWeek {T : zT} {k0 : Nat} {S S0 : zS} {a b : Nat}  (hS : S.2 a b = S0.2 a b) : zwl (fX5_borrowingWeek T k0 S) (fun q0 => q0.2.2 a b = S0.2 a b) := by
  unfold fX5_borrowingWeek
  refine zwl_b (wJ_X5_bestBorrowing  hS) (fun r1 S3 e1 => ?_)
  refine zwl_i ?_ ?_
  · exact (wJ_X5_borrowingWeek_b17  e1)
  · exact (wJ_X5_borrowingWeek_b17  e1)
set_option maxHeartbeats 40000 in
set_option maxRecDepth 100000 in
theorem wJ_X5_bestSelling_l31 {T : zT} {k0 : Nat} {x1 : Int32} {x2 : Int32} {x3 : Int32} {S S0 : zS} {a b : Nat}  (hS : S.2 a b = S0.2 a b) : zwl (fX5_bestSelling_l31 T k0 x1 x2 x3 S) (Sum.elim (fun q1 => q1.2.2 a b = S0.2 a b) (fun q1 => q1.2 a b = S0.2 a b)) := by
  unfold fX5_bestSelling_l31
  refine zwl_i ?_ ?_
  · exact zwl_r hS
  · refine zwl_b (wJ_X5_pass  hS) (fun r1 S10 e2 => ?_)
    refine zwl_v (fun u11 => ?_)
    exact zwl_r e2
set_option maxHeartbeats 40000 in
set_option maxRecDepth 100000 in
theorem wJ_X5_bestSelling {T : zT} {k0 : Nat} {x1 : Int32} {x2 : Int32} {S S0 : zS} {a b : Nat}  (hS : S.2 a b = S0.2 a b) : zwl (fX5_bestSelling T k0 x1 x2 S) (fun q0 => q0.2.2 a b = S0.2 a b) := by
  unfold fX5_bestSelling
  refine zwl_t (fun r1 => ?_)
  refine zwl_i ?_ ?_
  · refine zwl_b (wJ_X5_start  hS) (fun r1 S6 e2 => ?_)
    refine zwl_b1 (zwl_lp (I := (fun q0 => q0.2.2 a b = S0.2 a b)) (Q := (fun q0 => q0.2 a b = S0.2 a b)) (fun a e5 => (wJ_X5_bestSelling_l31  e5)) e2) (fun e12 e3 => ?_)
    refine zwl_b (wJ_X5_bestSellingFromLine  e3) (fun r13 S15 e6 => ?_)
    exact zwl_r e6
  · exact zwl_r hS
set_option maxHeartbeats 40000 in
set_option maxRecDepth 100000 in
theorem wJ_X5_sellingWeek_b71 {T : zT} {k0 : Nat} {x1 : Int32} {x2 : Int32} {x3 : Int32} {x4 : Int32} {S S0 : zS} {a b : Nat}  (hS : S.2 a b = S0.2 a b) : zwl (fX5_sellingWeek_b71 T k0 x1 x2 x3 x4 S) (Sum.elim (fun q1 => q1.2.2.2.2 a b = S0.2 a b) (fun q1 => q1.2.2 a b = S0.2 a b)) := by
  unfold fX5_sellingWeek_b71
  refine zwl_b (wJ_X5_pass  hS) (fun r1 S15 e2 => ?_)
  refine zwl_v (fun u16 => ?_)
  exact zwl_r e2
set_option maxHeartbeats 40000 in
set_option maxRecDepth 100000 in
theorem wJ_X5_sellingWeek_l25 {T : zT} {k0 : Nat} {x1 : Int32} {x2 : Int32} {x3 : Int32} {x4 : Int32} {S S0 : zS} {a b : Nat}  (hS : S.2 a b = S0.2 a b) : zwl (fX5_sellingWeek_l25 T k0 x1 x2 x3 x4 S) (Sum.elim (fun q1 => q1.2.2.2.2 a b = S0.2 a b) (fun q1 => q1.2.2 a b = S0.2 a b)) := by
  unfold fX5_sellingWeek_l25
  refine zwl_i ?_ ?_
  · exact zwl_r hS
  · refine zwl_t (fun r6 => ?_)
    refine zwl_i ?_ ?_
    · refine zwl_b (wJ_X5_bestSellingFromLine  hS) (fun r9 S11 e1 => ?_)
      refine zwl_i ?_ ?_
      · exact (wJ_X5_sellingWeek_b71  e1)
      · exact (wJ_X5_sellingWeek_b71  e1)
    · exact zwl_r hS
set_option maxHeartbeats 40000 in
set_option maxRecDepth 100000 in
theorem wJ_X5_sellingWeek_b94 {T : zT} {x2 : Int32} {S S0 : zS} {a b : Nat}  (hS : S.2 a b = S0.2 a b) : zwl (fX5_sellingWeek_b94 T x2 S) (fun q0 => q0.2.2 a b = S0.2 a b) := by
  unfold fX5_sellingWeek_b94
  exact zwl_r hS
set_option maxHeartbeats 40000 in
set_option maxRecDepth 100000 in
theorem wJ_X5_sellingWeek {T : zT} {k0 : Nat} {x1 : Int32} {S S0 : zS} {a b : Nat}  (hS : S.2 a b = S0.2 a b) : zwl (fX5_sellingWeek T k0 x1 S) (fun q0 => q0.2.2 a b = S0.2 a b) := by
  unfold fX5_sellingWeek
  refine zwl_v (fun u1 => ?_)
  refine zwl_b (wJ_X5_start  hS) (fun r1 S4 e2 => ?_)
  refine zwl_b1 (zwl_lp (I := (fun q0 => q0.2.2.2.2 a b = S0.2 a b)) (Q := (fun q0 => q0.2.2 a b = S0.2 a b)) (fun a e5 => (wJ_X5_sellingWeek_l25  e5)) e2) (fun e17 e3 => ?_)
  exact (wJ_X5_sellingWeek_b94  e3)
set_option maxHeartbeats 40000 in
set_option maxRecDepth 100000 in
theorem wJ_X11_earned_b18 {T : zT} {S S0 : zS} {a b : Nat}  (hS : S.2 a b = S0.2 a b) : zwl (fX11_earned_b18 T S) (fun q0 => q0.2.2 a b = S0.2 a b) := by
  unfold fX11_earned_b18
  exact zwl_r hS
set_option maxHeartbeats 40000 in
set_option maxRecDepth 100000 in
theorem wJ_X11_earned_b82 {T : zT} {s0 : Int32} {S S0 : zS} {a b : Nat}  (hS : S.2 a b = S0.2 a b) : zwl (fX11_earned_b82 T s0 S) (fun q0 => q0.2.2 a b = S0.2 a b) := by
  unfold fX11_earned_b82
  exact zwl_r hS
set_option maxHeartbeats 40000 in
set_option maxRecDepth 100000 in
theorem wJ_X11_earned {T : zT} {k0 : Nat} {x1 : Int32} {x2 : Int32} {x3 : Int32} {S S0 : zS} {a b : Nat} (h0 : ¬ a = zr T (zr T k0 11) 0) (h1 : ¬ a = zr T (zr T k0 11) 1) (hS : S.2 a b = S0.2 a b) : zwl (fX11_earned T k0 x1 x2 x3 S) (fun q0 => q0.2.2 a b = S0.2 a b) := by
  unfold fX11_earned
  refine zwl_t (fun r1 => ?_)
  refine zwl_i ?_ ?_
  · exact (wJ_X11_earned_b18  hS)
  · refine zwl_t (fun r4 => ?_)
    refine zwl_i ?_ ?_
    · exact (wJ_X11_earned_b18  hS)
    · refine zwl_i ?_ ?_
      · refine zwl_b (wJ_X0_earnings h0 h1 hS) (fun r12 S14 e1 => ?_)
        exact zwl_r e1
      · refine zwl_i ?_ ?_
        · refine zwl_b (wJ_X0_needing h0 h1 hS) (fun r9 S11 e2 => ?_)
          exact (wJ_X11_earned_b82  e2)
        · exact (wJ_X11_earned_b82  hS)
set_option maxHeartbeats 40000 in
set_option maxRecDepth 100000 in
theorem wJ_X11_most_b25 {T : zT} {S S0 : zS} {a b : Nat}  (hS : S.2 a b = S0.2 a b) : zwl (fX11_most_b25 T S) (fun q0 => q0.2.2 a b = S0.2 a b) := by
  unfold fX11_most_b25
  exact zwl_r hS
set_option maxHeartbeats 40000 in
set_option maxRecDepth 100000 in
theorem wJ_X11_most_b110 {T : zT} {k0 : Nat} {x1 : Int32} {x2 : Int32} {x3 : Int32} {x4 : Int32} {x5 : Int32} {S S0 : zS} {a b : Nat}  (hS : S.2 a b = S0.2 a b) : zwl (fX11_most_b110 T k0 x1 x2 x3 x4 x5 S) (Sum.elim (fun q1 => q1.2.2.2.2 a b = S0.2 a b) (fun q1 => q1.2.2 a b = S0.2 a b)) := by
  unfold fX11_most_b110
  refine zwl_v (fun u12 => ?_)
  exact zwl_r hS
set_option maxHeartbeats 40000 in
set_option maxRecDepth 100000 in
theorem wJ_X11_most_l35 {T : zT} {k0 : Nat} {x1 : Int32} {x2 : Int32} {x3 : Int32} {x4 : Int32} {x5 : Int32} {S S0 : zS} {a b : Nat} (h0 : ¬ a = zr T (zr T k0 11) 0) (h1 : ¬ a = zr T (zr T k0 11) 1) (hS : S.2 a b = S0.2 a b) : zwl (fX11_most_l35 T k0 x1 x2 x3 x4 x5 S) (Sum.elim (fun q1 => q1.2.2.2.2 a b = S0.2 a b) (fun q1 => q1.2.2 a b = S0.2 a b)) := by
  unfold fX11_most_l35
  refine zwl_i ?_ ?_
  · exact zwl_r hS
  · refine zwl_t (fun r9 => ?_)
    refine zwl_i ?_ ?_
    · exact (wJ_X11_most_b110  hS)
    · refine zwl_t (fun r13 => ?_)
      refine zwl_i ?_ ?_
      · refine zwl_b (wJ_X0_earnings h0 h1 hS) (fun r16 S18 e1 => ?_)
        refine zwl_i ?_ ?_
        · exact (wJ_X11_most_b110  e1)
        · exact (wJ_X11_most_b110  e1)
      · exact (wJ_X11_most_b110  hS)
set_option maxHeartbeats 40000 in
set_option maxRecDepth 100000 in
theorem wJ_X11_most {T : zT} {k0 : Nat} {x1 : Int32} {x2 : Int32} {S S0 : zS} {a b : Nat} (h0 : ¬ a = zr T (zr T k0 11) 0) (h1 : ¬ a = zr T (zr T k0 11) 1) (hS : S.2 a b = S0.2 a b) : zwl (fX11_most T k0 x1 x2 S) (fun q0 => q0.2.2 a b = S0.2 a b) := by
  unfold fX11_most
  refine zwl_t (fun r1 => ?_)
  refine zwl_i ?_ ?_
  · exact (wJ_X11_most_b25  hS)
  · refine zwl_i ?_ ?_
    · exact (wJ_X11_most_b25  hS)
    · refine zwl_t (fun r5 => ?_)
      refine zwl_i ?_ ?_
      · refine zwl_b1 (zwl_lp (I := (fun q0 => q0.2.2.2.2 a b = S0.2 a b)) (Q := (fun q0 => q0.2.2 a b = S0.2 a b)) (fun a e3 => (wJ_X11_most_l35 h0 h1 e3)) hS) (fun e20 e1 => ?_)
        exact zwl_r e1
      · exact (wJ_X11_most_b25  hS)
set_option maxHeartbeats 40000 in
set_option maxRecDepth 100000 in
theorem wJ_X11_pays_b37 {T : zT} {S S0 : zS} {a b : Nat}  (hS : S.2 a b = S0.2 a b) : zwl (fX11_pays_b37 T S) (fun q0 => q0.2.2 a b = S0.2 a b) := by
  unfold fX11_pays_b37
  exact zwl_r hS
set_option maxHeartbeats 40000 in
set_option maxRecDepth 100000 in
theorem wJ_X11_pays_l74 {T : zT} {k0 : Nat} {x2 : Int32} {x3 : Int32} {x4 : Int32} {x5 : Int32} {x6 : Int32} {x7 : Int32} {x8 : Int32} {S S0 : zS} {a b : Nat} (h0 : ¬ a = zr T (zr T k0 11) 0) (h1 : ¬ a = zr T (zr T k0 11) 1) (hS : S.2 a b = S0.2 a b) : zwl (fX11_pays_l74 T k0 x2 x3 x4 x5 x6 x7 x8 S) (Sum.elim (fun q1 => q1.2.2.2 a b = S0.2 a b) (Sum.elim (fun q2 => q2.2 a b = S0.2 a b) (fun q2 => q2.2.2 a b = S0.2 a b))) := by
  unfold fX11_pays_l74
  refine zwl_i ?_ ?_
  · exact zwl_r hS
  · refine zwl_v (fun u16 => ?_)
    refine zwl_b (wJ_X0_earnings h0 h1 hS) (fun r17 S19 e1 => ?_)
    refine zwl_v (fun u20 => ?_)
    refine zwl_b (wJ_X0_earnings h0 h1 e1) (fun r21 S23 e2 => ?_)
    refine zwl_v (fun u24 => ?_)
    refine zwl_i ?_ ?_
    · refine zwl_v (fun u26 => ?_)
      exact zwl_r e2
    · exact zwl_r e2
set_option maxHeartbeats 40000 in
set_option maxRecDepth 100000 in
theorem wJ_X11_pays {T : zT} {k0 : Nat} {x1 : Int32} {x2 : Int32} {x3 : Int32} {S S0 : zS} {a b : Nat} (h0 : ¬ a = zr T (zr T k0 11) 0) (h1 : ¬ a = zr T (zr T k0 11) 1) (hS : S.2 a b = S0.2 a b) : zwl (fX11_pays T k0 x1 x2 x3 S) (fun q0 => q0.2.2 a b = S0.2 a b) := by
  unfold fX11_pays
  refine zwl_t (fun r1 => ?_)
  refine zwl_i ?_ ?_
  · exact (wJ_X11_pays_b37  hS)
  · refine zwl_t (fun r4 => ?_)
    refine zwl_i ?_ ?_
    · exact (wJ_X11_pays_b37  hS)
    · refine zwl_t (fun r7 => ?_)
      refine zwl_i ?_ ?_
      · exact (wJ_X11_pays_b37  hS)
      · refine zwl_i ?_ ?_
        · exact (wJ_X11_pays_b37  hS)
        · refine zwl_v (fun u11 => ?_)
          refine zwl_v (fun u12 => ?_)
          refine zwl_t (fun r13 => ?_)
          refine zwl_b1 (zwl_lp (I := (fun q0 => q0.2.2.2 a b = S0.2 a b)) (Q := (Sum.elim (fun q1 => q1.2 a b = S0.2 a b) (fun q1 => q1.2.2 a b = S0.2 a b))) (fun a e3 => (wJ_X11_pays_l74 h0 h1 e3)) hS) (fun e27 e1 => ?_)
          refine zwl_m e1 (fun e27_0 e4 => ?_) (fun e27_1 e5 => ?_)
          · exact zwl_r e4
          · exact zwl_r e5
set_option maxHeartbeats 40000 in
set_option maxRecDepth 100000 in
theorem wJ_X12_extra_b124 {T : zT} {s0 : Int32} {s1 : Int32} {s2 : Nat} {m2 : Nat} {S S0 : zS} {a b : Nat}  (hS : S.2 a b = S0.2 a b) : zwl (fX12_extra_b124 T s0 s1 s2 m2 S) (fun q0 => q0.2.2 a b = S0.2 a b) := by
  unfold fX12_extra_b124
  refine zwl_g ?_
  refine zwl_sJn hS (fun S24 e1 => ?_)
  exact zwl_r e1
set_option maxHeartbeats 40000 in
set_option maxRecDepth 100000 in
theorem wJ_X12_extra_b103 {T : zT} {k0 : Nat} {x1 : Int32} {x2 : Int32} {x3 : Int32} {s0 : Int32} {s1 : Int32} {s2 : Nat} {m2 : Nat} {S S0 : zS} {a b : Nat}  (hS : S.2 a b = S0.2 a b) : zwl (fX12_extra_b103 T k0 x1 x2 x3 s0 s1 s2 m2 S) (fun q0 => q0.2.2 a b = S0.2 a b) := by
  unfold fX12_extra_b103
  refine zwl_g ?_
  refine zwl_sJn hS (fun S20 e1 => ?_)
  refine zwl_i ?_ ?_
  · exact (wJ_X12_extra_b124  e1)
  · refine zwl_g ?_
    exact (wJ_X12_extra_b124  e1)
set_option maxHeartbeats 40000 in
set_option maxRecDepth 100000 in
theorem wJ_X12_extra_b82 {T : zT} {k0 : Nat} {x1 : Int32} {x2 : Int32} {x3 : Int32} {s0 : Int32} {s1 : Int32} {s2 : Nat} {m2 : Nat} {S S0 : zS} {a b : Nat}  (hS : S.2 a b = S0.2 a b) : zwl (fX12_extra_b82 T k0 x1 x2 x3 s0 s1 s2 m2 S) (fun q0 => q0.2.2 a b = S0.2 a b) := by
  unfold fX12_extra_b82
  refine zwl_g ?_
  refine zwl_sJn hS (fun S16 e1 => ?_)
  refine zwl_i ?_ ?_
  · exact (wJ_X12_extra_b103  e1)
  · refine zwl_g ?_
    exact (wJ_X12_extra_b103  e1)
set_option maxHeartbeats 40000 in
set_option maxRecDepth 100000 in
theorem wJ_X12_extra_b61 {T : zT} {k0 : Nat} {x1 : Int32} {x2 : Int32} {x3 : Int32} {s0 : Int32} {s1 : Int32} {s2 : Nat} {m2 : Nat} {S S0 : zS} {a b : Nat}  (hS : S.2 a b = S0.2 a b) : zwl (fX12_extra_b61 T k0 x1 x2 x3 s0 s1 s2 m2 S) (fun q0 => q0.2.2 a b = S0.2 a b) := by
  unfold fX12_extra_b61
  refine zwl_g ?_
  refine zwl_sJn hS (fun S12 e1 => ?_)
  refine zwl_i ?_ ?_
  · exact (wJ_X12_extra_b82  e1)
  · refine zwl_g ?_
    exact (wJ_X12_extra_b82  e1)
set_option maxHeartbeats 40000 in
set_option maxRecDepth 100000 in
theorem wJ_X12_extra_b38 {T : zT} {k0 : Nat} {x1 : Int32} {x2 : Int32} {s0 : Int32} {s1 : Int32} {s2 : Nat} {S S0 : zS} {a b : Nat}  (hS : S.2 a b = S0.2 a b) : zwl (fX12_extra_b38 T k0 x1 x2 s0 s1 s2 S) (fun q0 => q0.2.2 a b = S0.2 a b) := by
  unfold fX12_extra_b38
  refine zwl_b (wJ_X12_amount  hS) (fun r6 S8 e1 => ?_)
  refine zwl_i ?_ ?_
  · exact (wJ_X12_extra_b61  e1)
  · refine zwl_g ?_
    exact (wJ_X12_extra_b61  e1)
set_option maxHeartbeats 40000 in
set_option maxRecDepth 100000 in
theorem wJ_X12_extra_b26 {T : zT} {k0 : Nat} {x1 : Int32} {x2 : Int32} {s0 : Int32} {s1 : Nat} {S S0 : zS} {a b : Nat}  (hS : S.2 a b = S0.2 a b) : zwl (fX12_extra_b26 T k0 x1 x2 s0 s1 S) (fun q0 => q0.2.2 a b = S0.2 a b) := by
  unfold fX12_extra_b26
  refine zwl_i ?_ ?_
  · exact (wJ_X12_extra_b38  hS)
  · exact (wJ_X12_extra_b38  hS)
set_option maxHeartbeats 40000 in
set_option maxRecDepth 100000 in
theorem wJ_X12_extra {T : zT} {k0 : Nat} {x1 : Int32} {x2 : Int32} {S S0 : zS} {a b : Nat}  (hS : S.2 a b = S0.2 a b) : zwl (fX12_extra T k0 x1 x2 S) (fun q0 => q0.2.2 a b = S0.2 a b) := by
  unfold fX12_extra
  refine zwl_t (fun r1 => ?_)
  refine zwl_sJn hS (fun S3 e1 => ?_)
  refine zwl_i ?_ ?_
  · exact (wJ_X12_extra_b26  e1)
  · exact (wJ_X12_extra_b26  e1)
set_option maxHeartbeats 40000 in
set_option maxRecDepth 100000 in
theorem wJ_X12_earned_b52 {T : zT} {s0 : Int32} {S S0 : zS} {a b : Nat}  (hS : S.2 a b = S0.2 a b) : zwl (fX12_earned_b52 T s0 S) (fun q0 => q0.2.2 a b = S0.2 a b) := by
  unfold fX12_earned_b52
  exact zwl_r hS
set_option maxHeartbeats 40000 in
set_option maxRecDepth 100000 in
theorem wJ_X12_earned_b51 {T : zT} {S S0 : zS} {a b : Nat}  (hS : S.2 a b = S0.2 a b) : zwl (fX12_earned_b51 T S) (fun q0 => q0.2.2 a b = S0.2 a b) := by
  unfold fX12_earned_b51
  exact (wJ_X12_earned_b52  hS)
set_option maxHeartbeats 40000 in
set_option maxRecDepth 100000 in
theorem wJ_X12_earned_b35 {T : zT} {k0 : Nat} {x1 : Int32} {x2 : Int32} {s0 : Int32} {s1 : Nat} {S S0 : zS} {a b : Nat} (h0 : ¬ a = zr T s1 34) (h1 : ¬ a = zr T s1 35) (hS : S.2 a b = S0.2 a b) : zwl (fX12_earned_b35 T k0 x1 x2 s0 s1 S) (fun q0 => q0.2.2 a b = S0.2 a b) := by
  unfold fX12_earned_b35
  refine zwl_t (fun r11 => ?_)
  refine zwl_b (wJ_X12_comes h0 h1 hS) (fun r13 S15 e1 => ?_)
  exact (wJ_X12_earned_b52  e1)
set_option maxHeartbeats 40000 in
set_option maxRecDepth 100000 in
theorem wJ_X12_earned {T : zT} {k0 : Nat} {x1 : Int32} {x2 : Int32} {x3 : Int32} {S S0 : zS} {a b : Nat} (h0 : ¬ a = zr T k0 34) (h1 : ¬ a = zr T k0 35) (hS : S.2 a b = S0.2 a b) : zwl (fX12_earned T k0 x1 x2 x3 S) (fun q0 => q0.2.2 a b = S0.2 a b) := by
  unfold fX12_earned
  refine zwl_t (fun r1 => ?_)
  refine zwl_i ?_ ?_
  · exact (wJ_X12_earned_b51  hS)
  · refine zwl_t (fun r4 => ?_)
    refine zwl_i ?_ ?_
    · exact (wJ_X12_earned_b51  hS)
    · refine zwl_t (fun r7 => ?_)
      refine zwl_i ?_ ?_
      · exact (wJ_X12_earned_b51  hS)
      · refine zwl_i ?_ ?_
        · exact (wJ_X12_earned_b35 h0 h1 hS)
        · exact (wJ_X12_earned_b35 h0 h1 hS)
set_option maxHeartbeats 40000 in
set_option maxRecDepth 100000 in
theorem wJ_X12_ends_b35 {T : zT} {k0 : Nat} {x1 : Int32} {x3 : Int32} {x4 : Int32} {s0 : Int32} {s1 : Int32} {s2 : Nat} {S S0 : zS} {a b : Nat} (h0 : ¬ a = zr T k0 34) (h1 : ¬ a = zr T k0 35) (hS : S.2 a b = S0.2 a b) : zwl (fX12_ends_b35 T k0 x1 x3 x4 s0 s1 s2 S) (fun q0 => q0.2.2 a b = S0.2 a b) := by
  unfold fX12_ends_b35
  refine zwl_sJn hS (fun S6 e1 => ?_)
  refine zwl_b (wJ_X12_comes h0 h1 e1) (fun r7 S9 e2 => ?_)
  refine zwl_i ?_ ?_
  · refine zwl_sJn e2 (fun S11 e3 => ?_)
    exact zwl_r e3
  · refine zwl_sJn e2 (fun S12 e4 => ?_)
    exact zwl_r e4
set_option maxHeartbeats 40000 in
set_option maxRecDepth 100000 in
theorem wJ_X12_ends {T : zT} {k0 : Nat} {x1 : Int32} {x2 : Int32} {S S0 : zS} {a b : Nat} (h0 : ¬ a = zr T k0 34) (h1 : ¬ a = zr T k0 35) (hS : S.2 a b = S0.2 a b) : zwl (fX12_ends T k0 x1 x2 S) (fun q0 => q0.2.2 a b = S0.2 a b) := by
  unfold fX12_ends
  refine zwl_t (fun r1 => ?_)
  refine zwl_t (fun r3 => ?_)
  refine zwl_i ?_ ?_
  · exact (wJ_X12_ends_b35 h0 h1 hS)
  · refine zwl_b (wJ_X12_comes h0 h1 hS) (fun r13 S15 e1 => ?_)
    exact (wJ_X12_ends_b35 h0 h1 e1)
set_option maxHeartbeats 40000 in
set_option maxRecDepth 100000 in
theorem wJ_X12_leads_b215 {T : zT} {s0 : Int32} {S S0 : zS} {a b : Nat}  (hS : S.2 a b = S0.2 a b) : zwl (fX12_leads_b215 T s0 S) (fun q0 => q0.2.2 a b = S0.2 a b) := by
  unfold fX12_leads_b215
  exact zwl_r hS
set_option maxHeartbeats 40000 in
set_option maxRecDepth 100000 in
theorem wJ_X12_leads_b88 {T : zT} {k0 : Nat} {x2 : Int32} {x3 : Int32} {x4 : Int32} {s0 : Int32} {s1 : Int32} {S S0 : zS} {a b : Nat} (h0 : ¬ a = zr T k0 34) (h1 : ¬ a = zr T k0 35) (hS : S.2 a b = S0.2 a b) : zwl (fX12_leads_b88 T k0 x2 x3 x4 s0 s1 S) (fun q0 => q0.2.2 a b = S0.2 a b) := by
  unfold fX12_leads_b88
  refine zwl_v (fun u5 => ?_)
  refine zwl_t (fun e12 => ?_)
  refine zwl_i ?_ ?_
  · refine zwl_t (fun r14 => ?_)
    refine zwl_t (fun r16 => ?_)
    refine zwl_v (fun u18 => ?_)
    refine zwl_b (wJ_X12_comes h0 h1 hS) (fun r19 S21 e1 => ?_)
    refine zwl_v (fun u22 => ?_)
    refine zwl_b (wJ_X12_comes h0 h1 e1) (fun r23 S25 e2 => ?_)
    refine zwl_i ?_ ?_
    · exact (wJ_X12_leads_b215  e2)
    · exact (wJ_X12_leads_b215  e2)
  · exact zwl_r hS
set_option maxHeartbeats 40000 in
set_option maxRecDepth 100000 in
theorem wJ_X12_leads_b61 {T : zT} {k0 : Nat} {x2 : Int32} {x3 : Int32} {x4 : Int32} {s0 : Int32} {s1 : Int32} {S S0 : zS} {a b : Nat} (h0 : ¬ a = zr T k0 34) (h1 : ¬ a = zr T k0 35) (hS : S.2 a b = S0.2 a b) : zwl (fX12_leads_b61 T k0 x2 x3 x4 s0 s1 S) (fun q0 => q0.2.2 a b = S0.2 a b) := by
  unfold fX12_leads_b61
  refine zwl_v (fun u3 => ?_)
  refine zwl_i ?_ ?_
  · refine zwl_g ?_
    exact (wJ_X12_leads_b88 h0 h1 hS)
  · exact (wJ_X12_leads_b88 h0 h1 hS)
set_option maxHeartbeats 40000 in
set_option maxRecDepth 100000 in
theorem wJ_X12_leads_b40 {T : zT} {k0 : Nat} {x2 : Int32} {x3 : Int32} {x4 : Int32} {x5 : Int32} {S S0 : zS} {a b : Nat} (h0 : ¬ a = zr T k0 34) (h1 : ¬ a = zr T k0 35) (hS : S.2 a b = S0.2 a b) : zwl (fX12_leads_b40 T k0 x2 x3 x4 x5 S) (fun q0 => q0.2.2 a b = S0.2 a b) := by
  unfold fX12_leads_b40
  refine zwl_i ?_ ?_
  · refine zwl_g ?_
    exact (wJ_X12_leads_b61 h0 h1 hS)
  · exact (wJ_X12_leads_b61 h0 h1 hS)
set_option maxHeartbeats 40000 in
set_option maxRecDepth 100000 in
theorem wJ_X12_leads {T : zT} {k0 : Nat} {x1 : Int32} {x2 : Int32} {x3 : Int32} {x4 : Int32} {S S0 : zS} {a b : Nat} (h0 : ¬ a = zr T k0 34) (h1 : ¬ a = zr T k0 35) (hS : S.2 a b = S0.2 a b) : zwl (fX12_leads T k0 x1 x2 x3 x4 S) (fun q0 => q0.2.2 a b = S0.2 a b) := by
  unfold fX12_leads
  refine zwl_i ?_ ?_
  · exact (wJ_X12_leads_b40 h0 h1 hS)
  · refine zwl_g ?_
    refine zwl_i ?_ ?_
    · refine zwl_g ?_
      refine zwl_v (fun u34 => ?_)
      refine zwl_i ?_ ?_
      · exact (wJ_X12_leads_b40 h0 h1 hS)
      · exact zwl_r hS
    · exact (wJ_X12_leads_b40 h0 h1 hS)
set_option maxHeartbeats 40000 in
set_option maxRecDepth 100000 in
theorem wJ_X12_likesIt_b267 {T : zT} {k0 : Nat} {x10 : Int32} {x11 : Int32} {S S0 : zS} {a b : Nat}  (hS : S.2 a b = S0.2 a b) : zwl (fX12_likesIt_b267 T k0 x10 x11 S) (Sum.elim (fun q1 => q1.2.2 a b = S0.2 a b) (Sum.elim (fun q2 => q2.2 a b = S0.2 a b) (fun q2 => q2.2.2 a b = S0.2 a b))) := by
  unfold fX12_likesIt_b267
  refine zwl_v (fun u45 => ?_)
  exact zwl_r hS
set_option maxHeartbeats 40000 in
set_option maxRecDepth 100000 in
theorem wJ_X12_likesIt_l176 {T : zT} {k0 : Nat} {x10 : Int32} {x11 : Int32} {S S0 : zS} {a b : Nat} (h0 : ¬ a = zr T k0 35) (hS : S.2 a b = S0.2 a b) : zwl (fX12_likesIt_l176 T k0 x10 x11 S) (Sum.elim (fun q1 => q1.2.2 a b = S0.2 a b) (Sum.elim (fun q2 => q2.2 a b = S0.2 a b) (fun q2 => q2.2.2 a b = S0.2 a b))) := by
  unfold fX12_likesIt_l176
  refine zwl_g ?_
  refine zwl_i ?_ ?_
  · exact zwl_r hS
  · refine zwl_g ?_
    refine zwl_i ?_ ?_
    · refine zwl_g ?_
      refine zwl_g ?_
      refine zwl_i ?_ ?_
      · exact zwl_r hS
      · refine zwl_g ?_
        refine zwl_g ?_
        refine zwl_b (wJ_X12_answer h0 hS) (fun r51 S53 e1 => ?_)
        refine zwl_i ?_ ?_
        · exact zwl_r e1
        · exact (wJ_X12_likesIt_b267  e1)
    · exact (wJ_X12_likesIt_b267  hS)
set_option maxHeartbeats 40000 in
set_option maxRecDepth 100000 in
theorem wJ_X12_likesIt_b246 {T : zT} {k0 : Nat} {x10 : Int32} {x11 : Int32} {S S0 : zS} {a b : Nat} (h0 : ¬ a = zr T k0 35) (hS : S.2 a b = S0.2 a b) : zwl (fX12_likesIt_b246 T k0 x10 x11 S) (fun q0 => q0.2.2 a b = S0.2 a b) := by
  unfold fX12_likesIt_b246
  refine zwl_g ?_
  refine zwl_g ?_
  refine zwl_b (wJ_X12_answer h0 hS) (fun r58 S60 e1 => ?_)
  exact zwl_r e1
set_option maxHeartbeats 40000 in
set_option maxRecDepth 100000 in
theorem wJ_X12_likesIt_b97 {T : zT} {k0 : Nat} {x1 : Int32} {x2 : Int32} {x3 : Int32} {x4 : Int32} {x5 : Int32} {x6 : Int32} {x9 : Int32} {s0 : Int64} {s1 : Int32} {s2 : Nat} {m2 : Nat} {S S0 : zS} {a b : Nat} (h0 : ¬ a = s2) (h1 : ¬ a = zr T k0 34) (h2 : ¬ a = zr T k0 35) (hS : S.2 a b = S0.2 a b) : zwl (fX12_likesIt_b97 T k0 x1 x2 x3 x4 x5 x6 x9 s0 s1 s2 m2 S) (fun q0 => q0.2.2 a b = S0.2 a b) := by
  unfold fX12_likesIt_b97
  refine zwl_g ?_
  refine zwl_sJa h0 hS (fun S21 e1 => ?_)
  refine zwl_g ?_
  refine zwl_sJa h1 e1 (fun S23 e2 => ?_)
  refine zwl_g ?_
  refine zwl_g ?_
  refine zwl_sJa h1 e2 (fun S26 e3 => ?_)
  refine zwl_g ?_
  refine zwl_sJa h1 e3 (fun S28 e4 => ?_)
  refine zwl_g ?_
  refine zwl_sJa h1 e4 (fun S30 e5 => ?_)
  refine zwl_t (fun r31 => ?_)
  refine zwl_g ?_
  refine zwl_sJa h1 e5 (fun S34 e6 => ?_)
  refine zwl_t (fun r35 => ?_)
  refine zwl_g ?_
  refine zwl_sJa h1 e6 (fun S38 e7 => ?_)
  refine zwl_v (fun u39 => ?_)
  refine zwl_v (fun u40 => ?_)
  refine zwl_b1 (zwl_lp (I := (fun q0 => q0.2.2 a b = S0.2 a b)) (Q := (Sum.elim (fun q1 => q1.2 a b = S0.2 a b) (fun q1 => q1.2.2 a b = S0.2 a b))) (fun a e10 => (wJ_X12_likesIt_l176 h2 e10)) e7) (fun e55 e8 => ?_)
  refine zwl_m e8 (fun e55_0 e11 => ?_) (fun e55_1 e12 => ?_)
  · exact zwl_r e11
  · exact (wJ_X12_likesIt_b246 h2 e12)
set_option maxHeartbeats 40000 in
set_option maxRecDepth 100000 in
theorem wJ_X12_likesIt {T : zT} {k0 : Nat} {x1 : Int32} {x2 : Int32} {x3 : Int32} {x4 : Int32} {x5 : Int32} {x6 : Int32} {S S0 : zS} {a b : Nat} (h0 : ¬ a = zr T k0 34) (h1 : ¬ a = zr T k0 35) (hS : S.2 a b = S0.2 a b) : zwl (fX12_likesIt T k0 x1 x2 x3 x4 x5 x6 S) (fun q0 => q0.2.2 a b = S0.2 a b) := by
  unfold fX12_likesIt
  refine zwl_v (fun u1 => ?_)
  refine zwl_v (fun u2 => ?_)
  refine zwl_b (wJ_X12_comes h0 h1 hS) (fun r3 S5 e1 => ?_)
  refine zwl_b (wJ_X12_comes h0 h1 e1) (fun r6 S8 e2 => ?_)
  refine zwl_v (fun u9 => ?_)
  refine zwl_t (fun r10 => ?_)
  refine zwl_g ?_
  refine zwl_sJa h0 e2 (fun S13 e3 => ?_)
  refine zwl_g ?_
  refine zwl_g ?_
  refine zwl_sJa h0 e3 (fun S16 e4 => ?_)
  refine zwl_g ?_
  refine zwl_i ?_ ?_
  · exact (wJ_X12_likesIt_b97 h0 h0 h1 e4)
  · refine zwl_g ?_
    exact (wJ_X12_likesIt_b97 h0 h0 h1 e4)
set_option maxHeartbeats 40000 in
set_option maxRecDepth 100000 in
theorem wJ_X12_most_b24 {T : zT} {S S0 : zS} {a b : Nat}  (hS : S.2 a b = S0.2 a b) : zwl (fX12_most_b24 T S) (fun q0 => q0.2.2 a b = S0.2 a b) := by
  unfold fX12_most_b24
  exact zwl_r hS
set_option maxHeartbeats 40000 in
set_option maxRecDepth 100000 in
theorem wJ_X12_most_b101 {T : zT} {k0 : Nat} {x1 : Int32} {x2 : Int32} {x3 : Int32} {x4 : Int32} {x5 : Int32} {S S0 : zS} {a b : Nat}  (hS : S.2 a b = S0.2 a b) : zwl (fX12_most_b101 T k0 x1 x2 x3 x4 x5 S) (Sum.elim (fun q1 => q1.2.2.2.2 a b = S0.2 a b) (fun q1 => q1.2.2 a b = S0.2 a b)) := by
  unfold fX12_most_b101
  refine zwl_v (fun u15 => ?_)
  exact zwl_r hS
set_option maxHeartbeats 40000 in
set_option maxRecDepth 100000 in
theorem wJ_X12_most_b94 {T : zT} {k0 : Nat} {x1 : Int32} {x2 : Int32} {x5 : Int32} {x6 : Int32} {S S0 : zS} {a b : Nat}  (hS : S.2 a b = S0.2 a b) : zwl (fX12_most_b94 T k0 x1 x2 x5 x6 S) (Sum.elim (fun q1 => q1.2.2.2.2 a b = S0.2 a b) (fun q1 => q1.2.2 a b = S0.2 a b)) := by
  unfold fX12_most_b94
  exact (wJ_X12_most_b101  hS)
set_option maxHeartbeats 40000 in
set_option maxRecDepth 100000 in
theorem wJ_X12_most_l34 {T : zT} {k0 : Nat} {x1 : Int32} {x2 : Int32} {x3 : Int32} {x4 : Int32} {x5 : Int32} {S S0 : zS} {a b : Nat} (h0 : ¬ a = zr T k0 34) (h1 : ¬ a = zr T k0 35) (hS : S.2 a b = S0.2 a b) : zwl (fX12_most_l34 T k0 x1 x2 x3 x4 x5 S) (Sum.elim (fun q1 => q1.2.2.2.2 a b = S0.2 a b) (fun q1 => q1.2.2 a b = S0.2 a b)) := by
  unfold fX12_most_l34
  refine zwl_i ?_ ?_
  · exact zwl_r hS
  · refine zwl_t (fun r12 => ?_)
    refine zwl_i ?_ ?_
    · refine zwl_t (fun r16 => ?_)
      refine zwl_i ?_ ?_
      · refine zwl_t (fun r19 => ?_)
        refine zwl_b (wJ_X12_comes h0 h1 hS) (fun r21 S23 e1 => ?_)
        refine zwl_i ?_ ?_
        · exact (wJ_X12_most_b94  e1)
        · refine zwl_i ?_ ?_
          · exact (wJ_X12_most_b101  e1)
          · exact (wJ_X12_most_b94  e1)
      · exact (wJ_X12_most_b101  hS)
    · exact (wJ_X12_most_b101  hS)
set_option maxHeartbeats 40000 in
set_option maxRecDepth 100000 in
theorem wJ_X12_most {T : zT} {k0 : Nat} {x1 : Int32} {x2 : Int32} {S S0 : zS} {a b : Nat} (h0 : ¬ a = zr T k0 34) (h1 : ¬ a = zr T k0 35) (hS : S.2 a b = S0.2 a b) : zwl (fX12_most T k0 x1 x2 S) (fun q0 => q0.2.2 a b = S0.2 a b) := by
  unfold fX12_most
  refine zwl_t (fun r1 => ?_)
  refine zwl_i ?_ ?_
  · exact (wJ_X12_most_b24  hS)
  · refine zwl_t (fun r4 => ?_)
    refine zwl_t (fun r6 => ?_)
    refine zwl_t (fun r8 => ?_)
    refine zwl_i ?_ ?_
    · exact (wJ_X12_most_b24  hS)
    · refine zwl_b1 (zwl_lp (I := (fun q0 => q0.2.2.2.2 a b = S0.2 a b)) (Q := (fun q0 => q0.2.2 a b = S0.2 a b)) (fun a e3 => (wJ_X12_most_l34 h0 h1 e3)) hS) (fun e26 e1 => ?_)
      exact zwl_r e1
set_option maxHeartbeats 40000 in
set_option maxRecDepth 100000 in
theorem wJ_X12_pays_b31 {T : zT} {S S0 : zS} {a b : Nat}  (hS : S.2 a b = S0.2 a b) : zwl (fX12_pays_b31 T S) (fun q0 => q0.2.2 a b = S0.2 a b) := by
  unfold fX12_pays_b31
  exact zwl_r hS
set_option maxHeartbeats 40000 in
set_option maxRecDepth 100000 in
theorem wJ_X12_pays_l48 {T : zT} {k0 : Nat} {x1 : Int32} {x2 : Int32} {x3 : Int32} {x4 : Int32} {x5 : Int32} {x6 : Int32} {S S0 : zS} {a b : Nat} (h0 : ¬ a = zr T k0 34) (h1 : ¬ a = zr T k0 35) (hS : S.2 a b = S0.2 a b) : zwl (fX12_pays_l48 T k0 x1 x2 x3 x4 x5 x6 S) (Sum.elim (fun q1 => q1.2.2.2 a b = S0.2 a b) (Sum.elim (fun q2 => q2.2 a b = S0.2 a b) (fun q2 => q2.2.2 a b = S0.2 a b))) := by
  unfold fX12_pays_l48
  refine zwl_i ?_ ?_
  · exact zwl_r hS
  · refine zwl_t (fun r13 => ?_)
    refine zwl_b (wJ_X12_comes h0 h1 hS) (fun r15 S17 e1 => ?_)
    refine zwl_t (fun r18 => ?_)
    refine zwl_b (wJ_X12_comes h0 h1 e1) (fun r20 S22 e2 => ?_)
    refine zwl_v (fun u23 => ?_)
    refine zwl_t (fun r24 => ?_)
    refine zwl_i ?_ ?_
    · refine zwl_v (fun u27 => ?_)
      exact zwl_r e2
    · exact zwl_r e2
set_option maxHeartbeats 40000 in
set_option maxRecDepth 100000 in
theorem wJ_X12_pays {T : zT} {k0 : Nat} {x1 : Int32} {x2 : Int32} {x3 : Int32} {S S0 : zS} {a b : Nat} (h0 : ¬ a = zr T k0 34) (h1 : ¬ a = zr T k0 35) (hS : S.2 a b = S0.2 a b) : zwl (fX12_pays T k0 x1 x2 x3 S) (fun q0 => q0.2.2 a b = S0.2 a b) := by
  unfold fX12_pays
  refine zwl_t (fun r1 => ?_)
  refine zwl_i ?_ ?_
  · exact (wJ_X12_pays_b31  hS)
  · refine zwl_t (fun r4 => ?_)
    refine zwl_i ?_ ?_
    · exact (wJ_X12_pays_b31  hS)
    · refine zwl_i ?_ ?_
      · exact (wJ_X12_pays_b31  hS)
      · refine zwl_t (fun r8 => ?_)
        refine zwl_i ?_ ?_
        · exact (wJ_X12_pays_b31  hS)
        · refine zwl_v (fun u11 => ?_)
          refine zwl_b1 (zwl_lp (I := (fun q0 => q0.2.2.2 a b = S0.2 a b)) (Q := (Sum.elim (fun q1 => q1.2 a b = S0.2 a b) (fun q1 => q1.2.2 a b = S0.2 a b))) (fun a e3 => (wJ_X12_pays_l48 h0 h1 e3)) hS) (fun e28 e1 => ?_)
          refine zwl_m e1 (fun e28_0 e4 => ?_) (fun e28_1 e5 => ?_)
          · exact zwl_r e4
          · exact zwl_r e5
set_option maxHeartbeats 40000 in
set_option maxRecDepth 100000 in
theorem wJ_X4_liveByRow_b82 {T : zT} {k0 : Nat} {k1 : Nat} {l2 : Int64} {x4 : Int32} {x5 : Int32} {S S0 : zS} {a b : Nat}  (hS : S.2 a b = S0.2 a b) : zwl (fX4_liveByRow_b82 T k0 k1 l2 x4 x5 S) (Sum.elim (fun q1 => q1.2.2.2 a b = S0.2 a b) (Sum.elim (fun q2 => q2.2.2 a b = S0.2 a b) (fun q2 => q2.2 a b = S0.2 a b))) := by
  unfold fX4_liveByRow_b82
  refine zwl_t (fun r15 => ?_)
  refine zwl_i ?_ ?_
  · exact zwl_r hS
  · refine zwl_v (fun u18 => ?_)
    exact zwl_r hS
set_option maxHeartbeats 40000 in
set_option maxRecDepth 100000 in
theorem wJ_X4_liveByRow_b79 {T : zT} {k0 : Nat} {k1 : Nat} {l2 : Int64} {x4 : Int32} {x5 : Int32} {s0 : Int32} {s1 : Int32} {s2 : Nat} {S S0 : zS} {a b : Nat} (h0 : ¬ a = zr T (zr T s2 1) 0) (h1 : ¬ a = zr T (zr T s2 1) 1) (hS : S.2 a b = S0.2 a b) : zwl (fX4_liveByRow_b79 T k0 k1 l2 x4 x5 s0 s1 s2 S) (Sum.elim (fun q1 => q1.2.2.2 a b = S0.2 a b) (Sum.elim (fun q2 => q2.2.2 a b = S0.2 a b) (fun q2 => q2.2 a b = S0.2 a b))) := by
  unfold fX4_liveByRow_b79
  refine zwl_b (wJ_X4_endWeek h0 h1 hS) (fun r1 S22 e2 => ?_)
  exact (wJ_X4_liveByRow_b82  e2)
set_option maxHeartbeats 40000 in
set_option maxRecDepth 100000 in
theorem wJ_X4_liveByRow_b53 {T : zT} {k0 : Nat} {k1 : Nat} {l2 : Int64} {x4 : Int32} {x5 : Int32} {S S0 : zS} {a b : Nat} (h0 : ¬ a = zr T (zr T k0 1) 0) (h1 : ¬ a = zr T (zr T k0 1) 1) (hS : S.2 a b = S0.2 a b) : zwl (fX4_liveByRow_b53 T k0 k1 l2 x4 x5 S) (Sum.elim (fun q1 => q1.2.2.2 a b = S0.2 a b) (Sum.elim (fun q2 => q2.2.2 a b = S0.2 a b) (fun q2 => q2.2 a b = S0.2 a b))) := by
  unfold fX4_liveByRow_b53
  refine zwl_t (fun r12 => ?_)
  refine zwl_i ?_ ?_
  · exact (wJ_X4_liveByRow_b82  hS)
  · refine zwl_i ?_ ?_
    · exact (wJ_X4_liveByRow_b79 h0 h1 hS)
    · exact (wJ_X4_liveByRow_b79 h0 h1 hS)
set_option maxHeartbeats 40000 in
set_option maxRecDepth 100000 in
theorem wJ_X4_liveByRow_l10 {T : zT} {k0 : Nat} {k1 : Nat} {l2 : Int64} {x4 : Int32} {x5 : Int32} {S S0 : zS} {a b : Nat} (h0 : ¬ a = zr T (zr T k0 1) 0) (h1 : ¬ a = zr T (zr T k0 1) 1) (hS : S.2 a b = S0.2 a b) : zwl (fX4_liveByRow_l10 T k0 k1 l2 x4 x5 S) (Sum.elim (fun q1 => q1.2.2.2 a b = S0.2 a b) (Sum.elim (fun q2 => q2.2.2 a b = S0.2 a b) (fun q2 => q2.2 a b = S0.2 a b))) := by
  unfold fX4_liveByRow_l10
  refine zwl_i ?_ ?_
  · exact zwl_r hS
  · refine zwl_i ?_ ?_
    · exact zwl_r hS
    · refine zwl_b (wJ_X4_startWeek  hS) (fun r1 S8 e2 => ?_)
      refine zwl_t (fun r9 => ?_)
      refine zwl_i ?_ ?_
      · exact (wJ_X4_liveByRow_b53 h0 h1 e2)
      · refine zwl_b (wJ_X4_doActs  e2) (fun r23 S25 e3 => ?_)
        exact (wJ_X4_liveByRow_b53 h0 h1 e3)
set_option maxHeartbeats 40000 in
set_option maxRecDepth 100000 in
theorem wJ_X4_liveByRow_b111 {T : zT} {S S0 : zS} {a b : Nat}  (hS : S.2 a b = S0.2 a b) : zwl (fX4_liveByRow_b111 T S) (fun q0 => q0.2.2 a b = S0.2 a b) := by
  unfold fX4_liveByRow_b111
  exact zwl_r hS
set_option maxHeartbeats 40000 in
set_option maxRecDepth 100000 in
theorem wJ_X4_liveByRow_b96 {T : zT} {k0 : Nat} {k1 : Nat} {x4 : Int32} {S S0 : zS} {a b : Nat}  (hS : S.2 a b = S0.2 a b) : zwl (fX4_liveByRow_b96 T k0 k1 x4 S) (fun q0 => q0.2.2 a b = S0.2 a b) := by
  unfold fX4_liveByRow_b96
  refine zwl_i ?_ ?_
  · exact (wJ_X4_liveByRow_b111  hS)
  · refine zwl_sJn hS (fun S28 e1 => ?_)
    exact (wJ_X4_liveByRow_b111  e1)
set_option maxHeartbeats 40000 in
set_option maxRecDepth 100000 in
theorem wJ_X4_liveByRow {T : zT} {k0 : Nat} {k1 : Nat} {l2 : Int64} {S S0 : zS} {a b : Nat} (h0 : ¬ a = zr T (zr T k0 1) 0) (h1 : ¬ a = zr T (zr T k0 1) 1) (hS : S.2 a b = S0.2 a b) : zwl (fX4_liveByRow T k0 k1 l2 S) (fun q0 => q0.2.2 a b = S0.2 a b) := by
  unfold fX4_liveByRow
  refine zwl_b (wJ_X4_begin  hS) (fun r1 S3 e2 => ?_)
  refine zwl_b1 (zwl_lp (I := (fun q0 => q0.2.2.2 a b = S0.2 a b)) (Q := (Sum.elim (fun q1 => q1.2.2 a b = S0.2 a b) (fun q1 => q1.2 a b = S0.2 a b))) (fun a e5 => (wJ_X4_liveByRow_l10 h0 h1 e5)) e2) (fun e26 e3 => ?_)
  refine zwl_m e3 (fun e26_0 e6 => ?_) (fun e26_1 e7 => ?_)
  · exact (wJ_X4_liveByRow_b96  e6)
  · exact zwl_r e7
set_option maxHeartbeats 40000 in
set_option maxRecDepth 100000 in
theorem wJ_X4_likedMost_b68 {T : zT} {k0 : Nat} {k1 : Nat} {x2 : Int32} {x3 : Int32} {l4 : Int64} {x6 : Int32} {S S0 : zS} {a b : Nat}  (hS : S.2 a b = S0.2 a b) : zwl (fX4_likedMost_b68 T k0 k1 x2 x3 l4 x6 S) (Sum.elim (fun q1 => q1.2.2.2.2 a b = S0.2 a b) (fun q1 => q1.2.2 a b = S0.2 a b)) := by
  unfold fX4_likedMost_b68
  refine zwl_v (fun u5 => ?_)
  exact zwl_r hS
set_option maxHeartbeats 40000 in
set_option maxRecDepth 100000 in
theorem wJ_X4_likedMost_l8 {T : zT} {k0 : Nat} {k1 : Nat} {x2 : Int32} {x3 : Int32} {l4 : Int64} {x6 : Int32} {S S0 : zS} {a b : Nat} (h0 : ¬ a = zr T (zr T k0 2) 0) (h1 : ¬ a = zr T (zr T k0 2) 1) (h2 : ¬ a = zr T (zr T k0 1) 0) (h3 : ¬ a = zr T (zr T k0 1) 1) (hS : S.2 a b = S0.2 a b) : zwl (fX4_likedMost_l8 T k0 k1 x2 x3 l4 x6 S) (Sum.elim (fun q1 => q1.2.2.2.2 a b = S0.2 a b) (fun q1 => q1.2.2 a b = S0.2 a b)) := by
  unfold fX4_likedMost_l8
  refine zwl_i ?_ ?_
  · exact zwl_r hS
  · refine zwl_t (fun r2 => ?_)
    refine zwl_i ?_ ?_
    · exact (wJ_X4_likedMost_b68  hS)
    · refine zwl_t (fun r6 => ?_)
      refine zwl_i ?_ ?_
      · exact (wJ_X4_likedMost_b68  hS)
      · refine zwl_b (wJ_X4_liking h0 h1 h2 h3 hS) (fun r9 S11 e1 => ?_)
        refine zwl_i ?_ ?_
        · exact (wJ_X4_likedMost_b68  e1)
        · exact (wJ_X4_likedMost_b68  e1)
set_option maxHeartbeats 40000 in
set_option maxRecDepth 100000 in
theorem wJ_X4_likedMost {T : zT} {k0 : Nat} {k1 : Nat} {x2 : Int32} {S S0 : zS} {a b : Nat} (h0 : ¬ a = zr T (zr T k0 2) 0) (h1 : ¬ a = zr T (zr T k0 2) 1) (h2 : ¬ a = zr T (zr T k0 1) 0) (h3 : ¬ a = zr T (zr T k0 1) 1) (hS : S.2 a b = S0.2 a b) : zwl (fX4_likedMost T k0 k1 x2 S) (fun q0 => q0.2.2 a b = S0.2 a b) := by
  unfold fX4_likedMost
  refine zwl_b1 (zwl_lp (I := (fun q0 => q0.2.2.2.2 a b = S0.2 a b)) (Q := (fun q0 => q0.2.2 a b = S0.2 a b)) (fun a e3 => (wJ_X4_likedMost_l8 h0 h1 h2 h3 e3)) hS) (fun e13 e1 => ?_)
  exact zwl_r e1
set_option maxHeartbeats 40000 in
set_option maxRecDepth 100000 in
theorem wJ_X5_prepare_l68 {T : zT} {k0 : Nat} {x1 : Int32} {S S0 : zS} {a b : Nat}  (hS : S.2 a b = S0.2 a b) : zwl (fX5_prepare_l68 T k0 x1 S) (Sum.elim (fun q1 => q1.2.2 a b = S0.2 a b) (fun q1 => q1.2 a b = S0.2 a b)) := by
  unfold fX5_prepare_l68
  refine zwl_i ?_ ?_
  · exact zwl_r hS
  · refine zwl_i ?_ ?_
    · exact zwl_r hS
    · refine zwl_b (wJ_X5_pass  hS) (fun r1 S17 e2 => ?_)
      refine zwl_g ?_
      refine zwl_sJnC e2 (fun S19 e3 => ?_)
      refine zwl_b (wJ_X5_countStates  e3) (fun r4 S22 e5 => ?_)
      refine zwl_v (fun u23 => ?_)
      exact zwl_r e5
set_option maxHeartbeats 40000 in
set_option maxRecDepth 100000 in
theorem wJ_X5_prepare_b129 {T : zT} {k0 : Nat} {S S0 : zS} {a b : Nat}  (hS : S.2 a b = S0.2 a b) : zwl (fX5_prepare_b129 T k0 S) (fun q0 => q0.2.2 a b = S0.2 a b) := by
  unfold fX5_prepare_b129
  refine zwl_t (fun r25 => ?_)
  refine zwl_sJn hS (fun S27 e1 => ?_)
  refine zwl_t (fun r28 => ?_)
  refine zwl_sJn e1 (fun S30 e2 => ?_)
  refine zwl_b (wJ_X5_tracePlan  e2) (fun r3 S33 e4 => ?_)
  refine zwl_sJn e4 (fun S34 e5 => ?_)
  exact zwl_r e5
set_option maxHeartbeats 40000 in
set_option maxRecDepth 100000 in
theorem wJ_X5_prepare_b41 {T : zT} {k0 : Nat} {S S0 : zS} {a b : Nat}  (hS : S.2 a b = S0.2 a b) : zwl (fX5_prepare_b41 T k0 S) (fun q0 => q0.2.2 a b = S0.2 a b) := by
  unfold fX5_prepare_b41
  refine zwl_b (wJ_X5_start  hS) (fun r1 S10 e2 => ?_)
  refine zwl_sJn e2 (fun S11 e3 => ?_)
  refine zwl_sJn e3 (fun S12 e4 => ?_)
  refine zwl_b1 (zwl_lp (I := (fun q0 => q0.2.2 a b = S0.2 a b)) (Q := (fun q0 => q0.2 a b = S0.2 a b)) (fun a e7 => (wJ_X5_prepare_l68  e7)) e4) (fun e24 e5 => ?_)
  exact (wJ_X5_prepare_b129  e5)
set_option maxHeartbeats 40000 in
set_option maxRecDepth 100000 in
theorem wJ_X5_prepare {T : zT} {k0 : Nat} {S S0 : zS} {a b : Nat} (h0 : ¬ a = zr T (zr T k0 1) 0) (h1 : ¬ a = zr T (zr T k0 1) 1) (hS : S.2 a b = S0.2 a b) : zwl (fX5_prepare T k0 S) (fun q0 => q0.2.2 a b = S0.2 a b) := by
  unfold fX5_prepare
  refine zwl_i ?_ ?_
  · refine zwl_b (wJ_X5_fillGains h0 h1 hS) (fun r1 S4 e2 => ?_)
    refine zwl_t (fun r5 => ?_)
    refine zwl_i ?_ ?_
    · exact (wJ_X5_prepare_b41  e2)
    · refine zwl_b (wJ_X5_fillGains h0 h1 e2) (fun r3 S39 e4 => ?_)
      exact (wJ_X5_prepare_b41  e4)
  · exact zwl_r hS
set_option maxHeartbeats 40000 in
set_option maxRecDepth 100000 in
theorem wJ_X11_likes_b71 {T : zT} {S S0 : zS} {a b : Nat}  (hS : S.2 a b = S0.2 a b) : zwl (fX11_likes_b71 T S) (fun q0 => q0.2.2 a b = S0.2 a b) := by
  unfold fX11_likes_b71
  exact zwl_r hS
set_option maxHeartbeats 40000 in
set_option maxRecDepth 100000 in
theorem wJ_X11_likes_b36 {T : zT} {k0 : Nat} {x1 : Int32} {x2 : Int32} {x3 : Int32} {x4 : Int32} {x5 : Int32} {s0 : Int32} {S S0 : zS} {a b : Nat} (h0 : ¬ a = zr T (zr T (zr T k0 12) 2) 0) (h1 : ¬ a = zr T (zr T (zr T k0 12) 2) 1) (h2 : ¬ a = zr T (zr T (zr T k0 12) 1) 0) (h3 : ¬ a = zr T (zr T (zr T k0 12) 1) 1) (hS : S.2 a b = S0.2 a b) : zwl (fX11_likes_b36 T k0 x1 x2 x3 x4 x5 s0 S) (fun q0 => q0.2.2 a b = S0.2 a b) := by
  unfold fX11_likes_b36
  refine zwl_i ?_ ?_
  · exact (wJ_X11_likes_b71  hS)
  · refine zwl_i ?_ ?_
    · exact (wJ_X11_likes_b71  hS)
    · refine zwl_i ?_ ?_
      · exact (wJ_X11_likes_b71  hS)
      · refine zwl_i ?_ ?_
        · exact (wJ_X11_likes_b71  hS)
        · refine zwl_i ?_ ?_
          · refine zwl_i ?_ ?_
            · refine zwl_b (wJ_X4_begin  hS) (fun r1 S12 e2 => ?_)
              refine zwl_sJn e2 (fun S13 e3 => ?_)
              refine zwl_sJn e3 (fun S14 e4 => ?_)
              refine zwl_g ?_
              refine zwl_b (wJ_X4_liking h0 h1 h2 h3 e4) (fun r16 S18 e5 => ?_)
              exact zwl_r e5
            · exact zwl_r hS
          · exact (wJ_X11_likes_b71  hS)
set_option maxHeartbeats 40000 in
set_option maxRecDepth 100000 in
theorem wJ_X11_likes_b35 {T : zT} {k0 : Nat} {x1 : Int32} {x2 : Int32} {x3 : Int32} {x4 : Int32} {x5 : Int32} {S S0 : zS} {a b : Nat} (h0 : ¬ a = zr T (zr T (zr T k0 12) 2) 0) (h1 : ¬ a = zr T (zr T (zr T k0 12) 2) 1) (h2 : ¬ a = zr T (zr T (zr T k0 12) 1) 0) (h3 : ¬ a = zr T (zr T (zr T k0 12) 1) 1) (hS : S.2 a b = S0.2 a b) : zwl (fX11_likes_b35 T k0 x1 x2 x3 x4 x5 S) (fun q0 => q0.2.2 a b = S0.2 a b) := by
  unfold fX11_likes_b35
  exact (wJ_X11_likes_b36 h0 h1 h2 h3 hS)
set_option maxHeartbeats 40000 in
set_option maxRecDepth 100000 in
theorem wJ_X11_likes {T : zT} {k0 : Nat} {x1 : Int32} {x2 : Int32} {x3 : Int32} {x4 : Int32} {x5 : Int32} {S S0 : zS} {a b : Nat} (h0 : ¬ a = zr T (zr T (zr T k0 12) 2) 0) (h1 : ¬ a = zr T (zr T (zr T k0 12) 2) 1) (h2 : ¬ a = zr T (zr T (zr T k0 12) 1) 0) (h3 : ¬ a = zr T (zr T (zr T k0 12) 1) 1) (hS : S.2 a b = S0.2 a b) : zwl (fX11_likes T k0 x1 x2 x3 x4 x5 S) (fun q0 => q0.2.2 a b = S0.2 a b) := by
  unfold fX11_likes
  refine zwl_t (fun r1 => ?_)
  refine zwl_i ?_ ?_
  · exact (wJ_X11_likes_b35 h0 h1 h2 h3 hS)
  · refine zwl_t (fun r19 => ?_)
    refine zwl_i ?_ ?_
    · exact (wJ_X11_likes_b35 h0 h1 h2 h3 hS)
    · refine zwl_t (fun r22 => ?_)
      refine zwl_i ?_ ?_
      · exact (wJ_X11_likes_b35 h0 h1 h2 h3 hS)
      · exact (wJ_X11_likes_b36 h0 h1 h2 h3 hS)
set_option maxHeartbeats 40000 in
set_option maxRecDepth 100000 in
theorem wJ_X12_takes_b27 {T : zT} {x2 : Int32} {s0 : Int32} {s1 : Int32} {s2 : Nat} {S S0 : zS} {a b : Nat}  (hS : S.2 a b = S0.2 a b) : zwl (fX12_takes_b27 T x2 s0 s1 s2 S) (fun q0 => q0.2.2 a b = S0.2 a b) := by
  unfold fX12_takes_b27
  refine zwl_sJn hS (fun S7 e1 => ?_)
  refine zwl_g ?_
  exact zwl_r e1
set_option maxHeartbeats 40000 in
set_option maxRecDepth 100000 in
theorem wJ_X12_takes {T : zT} {k0 : Nat} {i1 : Nat} {S S0 : zS} {a b : Nat}  (hS : S.2 a b = S0.2 a b) : zwl (fX12_takes T k0 i1 S) (fun q0 => q0.2.2 a b = S0.2 a b) := by
  unfold fX12_takes
  refine zwl_b (wJ_X12_blanks  hS) (fun r1 S3 e2 => ?_)
  refine zwl_t (fun r4 => ?_)
  refine zwl_i ?_ ?_
  · exact (wJ_X12_takes_b27  e2)
  · exact (wJ_X12_takes_b27  e2)
set_option maxHeartbeats 40000 in
set_option maxRecDepth 100000 in
theorem wJ_X12_value_b63 {T : zT} {k0 : Nat} {x1 : Int32} {x2 : Int32} {S S0 : zS} {a b : Nat}  (hS : S.2 a b = S0.2 a b) : zwl (fX12_value_b63 T k0 x1 x2 S) (fun q0 => q0.2.2 a b = S0.2 a b) := by
  unfold fX12_value_b63
  refine zwl_i ?_ ?_
  · refine zwl_b (wJ_X12_fails  hS) (fun r1 S28 e2 => ?_)
    exact zwl_r e2
  · refine zwl_b (wJ_X12_isCounted  hS) (fun r3 S19 e4 => ?_)
    refine zwl_t (fun r20 => ?_)
    refine zwl_sJn e4 (fun S22 e5 => ?_)
    refine zwl_b (wJ_X12_entry  e5) (fun r6 S25 e7 => ?_)
    exact zwl_r e7
set_option maxHeartbeats 40000 in
set_option maxRecDepth 100000 in
theorem wJ_X12_value {T : zT} {k0 : Nat} {S S0 : zS} {a b : Nat}  (hS : S.2 a b = S0.2 a b) : zwl (fX12_value T k0 S) (fun q0 => q0.2.2 a b = S0.2 a b) := by
  unfold fX12_value
  refine zwl_b (wJ_X12_blanks  hS) (fun r1 S3 e2 => ?_)
  refine zwl_v (fun u4 => ?_)
  refine zwl_t (fun r5 => ?_)
  refine zwl_i ?_ ?_
  · refine zwl_t (fun e15 => ?_)
    exact (wJ_X12_value_b63  e2)
  · refine zwl_b (wJ_X12_digits  e2) (fun r31 S33 e3 => ?_)
    refine zwl_b (wJ_X12_isCounted  e3) (fun r4 S36 e5 => ?_)
    refine zwl_b (wJ_X12_entry  e5) (fun r6 S39 e7 => ?_)
    exact zwl_r e7
set_option maxHeartbeats 40000 in
set_option maxRecDepth 100000 in
theorem wJ_X12_thingClause_b218 {T : zT} {k0 : Nat} {x2 : Int32} {x3 : Int32} {s0 : Int32} {S S0 : zS} {a b : Nat}  (hS : S.2 a b = S0.2 a b) : zwl (fX12_thingClause_b218 T k0 x2 x3 s0 S) (Sum.elim (fun q1 => q1.2.2.2 a b = S0.2 a b) (fun q1 => q1.2 a b = S0.2 a b)) := by
  unfold fX12_thingClause_b218
  exact zwl_r hS
set_option maxHeartbeats 40000 in
set_option maxRecDepth 100000 in
theorem wJ_X12_thingClause_b217 {T : zT} {k0 : Nat} {x2 : Int32} {x3 : Int32} {S S0 : zS} {a b : Nat}  (hS : S.2 a b = S0.2 a b) : zwl (fX12_thingClause_b217 T k0 x2 x3 S) (Sum.elim (fun q1 => q1.2.2.2 a b = S0.2 a b) (fun q1 => q1.2 a b = S0.2 a b)) := by
  unfold fX12_thingClause_b217
  exact (wJ_X12_thingClause_b218  hS)
set_option maxHeartbeats 40000 in
set_option maxRecDepth 100000 in
theorem wJ_X12_thingClause_b201 {T : zT} {k0 : Nat} {x2 : Int32} {x3 : Int32} {x4 : Int32} {S S0 : zS} {a b : Nat}  (hS : S.2 a b = S0.2 a b) : zwl (fX12_thingClause_b201 T k0 x2 x3 x4 S) (Sum.elim (fun q1 => q1.2.2.2 a b = S0.2 a b) (fun q1 => q1.2 a b = S0.2 a b)) := by
  unfold fX12_thingClause_b201
  refine zwl_i ?_ ?_
  · exact (wJ_X12_thingClause_b217  hS)
  · refine zwl_i ?_ ?_
    · exact (wJ_X12_thingClause_b218  hS)
    · exact (wJ_X12_thingClause_b217  hS)
set_option maxHeartbeats 40000 in
set_option maxRecDepth 100000 in
theorem wJ_X12_thingClause_b182 {T : zT} {k0 : Nat} {x2 : Int32} {x3 : Int32} {x4 : Int32} {x5 : Int32} {S S0 : zS} {a b : Nat}  (hS : S.2 a b = S0.2 a b) : zwl (fX12_thingClause_b182 T k0 x2 x3 x4 x5 S) (Sum.elim (fun q1 => q1.2.2.2 a b = S0.2 a b) (fun q1 => q1.2 a b = S0.2 a b)) := by
  unfold fX12_thingClause_b182
  refine zwl_i ?_ ?_
  · exact (wJ_X12_thingClause_b201  hS)
  · refine zwl_v (fun u39 => ?_)
    refine zwl_b (wJ_X12_extra  hS) (fun r1 S42 e2 => ?_)
    exact (wJ_X12_thingClause_b201  e2)
set_option maxHeartbeats 40000 in
set_option maxRecDepth 100000 in
theorem wJ_X12_thingClause_b153 {T : zT} {k0 : Nat} {x2 : Int32} {x3 : Int32} {x5 : Int32} {s0 : Int32} {S S0 : zS} {a b : Nat}  (hS : S.2 a b = S0.2 a b) : zwl (fX12_thingClause_b153 T k0 x2 x3 x5 s0 S) (Sum.elim (fun q1 => q1.2.2.2 a b = S0.2 a b) (fun q1 => q1.2 a b = S0.2 a b)) := by
  unfold fX12_thingClause_b153
  refine zwl_i ?_ ?_
  · exact (wJ_X12_thingClause_b182  hS)
  · refine zwl_i ?_ ?_
    · refine zwl_b (wJ_X12_fails  hS) (fun r1 S46 e2 => ?_)
      exact (wJ_X12_thingClause_b201  e2)
    · exact (wJ_X12_thingClause_b182  hS)
set_option maxHeartbeats 40000 in
set_option maxRecDepth 100000 in
theorem wJ_X12_thingClause_b142 {T : zT} {k0 : Nat} {x2 : Int32} {x3 : Int32} {x5 : Int32} {S S0 : zS} {a b : Nat}  (hS : S.2 a b = S0.2 a b) : zwl (fX12_thingClause_b142 T k0 x2 x3 x5 S) (Sum.elim (fun q1 => q1.2.2.2 a b = S0.2 a b) (fun q1 => q1.2 a b = S0.2 a b)) := by
  unfold fX12_thingClause_b142
  refine zwl_i ?_ ?_
  · exact (wJ_X12_thingClause_b153  hS)
  · exact (wJ_X12_thingClause_b153  hS)
set_option maxHeartbeats 40000 in
set_option maxRecDepth 100000 in
theorem wJ_X12_thingClause_l106 {T : zT} {k0 : Nat} {x2 : Int32} {x3 : Int32} {x4 : Int32} {S S0 : zS} {a b : Nat}  (hS : S.2 a b = S0.2 a b) : zwl (fX12_thingClause_l106 T k0 x2 x3 x4 S) (Sum.elim (fun q1 => q1.2.2.2 a b = S0.2 a b) (fun q1 => q1.2 a b = S0.2 a b)) := by
  unfold fX12_thingClause_l106
  refine zwl_i ?_ ?_
  · exact zwl_r hS
  · refine zwl_b (wJ_X12_blanks  hS) (fun r1 S25 e2 => ?_)
    refine zwl_t (fun e33 => ?_)
    exact (wJ_X12_thingClause_b142  e2)
set_option maxHeartbeats 40000 in
set_option maxRecDepth 100000 in
theorem wJ_X12_thingClause_b104 {T : zT} {k0 : Nat} {x2 : Int32} {x3 : Int32} {s0 : Int32} {S S0 : zS} {a b : Nat}  (hS : S.2 a b = S0.2 a b) : zwl (fX12_thingClause_b104 T k0 x2 x3 s0 S) (fun q0 => q0.2.2 a b = S0.2 a b) := by
  unfold fX12_thingClause_b104
  refine zwl_b1 (zwl_lp (I := (fun q0 => q0.2.2.2 a b = S0.2 a b)) (Q := (fun q0 => q0.2 a b = S0.2 a b)) (fun a e3 => (wJ_X12_thingClause_l106  e3)) hS) (fun e49 e1 => ?_)
  exact zwl_r e1
set_option maxHeartbeats 40000 in
set_option maxRecDepth 100000 in
theorem wJ_X12_thingClause {T : zT} {k0 : Nat} {S S0 : zS} {a b : Nat}  (hS : S.2 a b = S0.2 a b) : zwl (fX12_thingClause T k0 S) (fun q0 => q0.2.2 a b = S0.2 a b) := by
  unfold fX12_thingClause
  refine zwl_b (wJ_X12_letter  hS) (fun r1 S3 e1 => ?_)
  refine zwl_i ?_ ?_
  · refine zwl_b (wJ_X12_fails  e1) (fun r2 S57 e3 => ?_)
    exact zwl_r e3
  · refine zwl_v (fun u5 => ?_)
    refine zwl_g ?_
    refine zwl_i ?_ ?_
    · refine zwl_b (wJ_X12_fails  e1) (fun r4 S54 e5 => ?_)
      exact zwl_r e5
    · refine zwl_sJn e1 (fun S8 e6 => ?_)
      refine zwl_g ?_
      refine zwl_sJn e6 (fun S10 e7 => ?_)
      refine zwl_b (wJ_X12_amount  e7) (fun r11 S13 e8 => ?_)
      refine zwl_g ?_
      refine zwl_sJn e8 (fun S15 e9 => ?_)
      refine zwl_b (wJ_X12_amount  e9) (fun r16 S18 e10 => ?_)
      refine zwl_g ?_
      refine zwl_sJn e10 (fun S20 e11 => ?_)
      refine zwl_i ?_ ?_
      · exact (wJ_X12_thingClause_b104  e11)
      · exact (wJ_X12_thingClause_b104  e11)
set_option maxHeartbeats 40000 in
set_option maxRecDepth 100000 in
theorem wJ_X12_goesBy_b238 {T : zT} {k0 : Nat} {x1 : Int32} {x2 : Int32} {x3 : Int32} {x4 : Int32} {S S0 : zS} {a b : Nat}  (hS : S.2 a b = S0.2 a b) : zwl (fX12_goesBy_b238 T k0 x1 x2 x3 x4 S) (Sum.elim (fun q1 => q1.2.2.2 a b = S0.2 a b) (fun q1 => q1.2.2 a b = S0.2 a b)) := by
  unfold fX12_goesBy_b238
  refine zwl_v (fun u10 => ?_)
  exact zwl_r hS
set_option maxHeartbeats 40000 in
set_option maxRecDepth 100000 in
theorem wJ_X12_goesBy_b169 {T : zT} {k0 : Nat} {x1 : Int32} {x2 : Int32} {x3 : Int32} {x4 : Int32} {x5 : Int32} {s0 : Int32} {s1 : Nat} {S S0 : zS} {a b : Nat}  (hS : S.2 a b = S0.2 a b) : zwl (fX12_goesBy_b169 T k0 x1 x2 x3 x4 x5 s0 s1 S) (Sum.elim (fun q1 => q1.2.2 a b = S0.2 a b) (fun q1 => q1.2.2 a b = S0.2 a b)) := by
  unfold fX12_goesBy_b169
  refine zwl_sJn hS (fun S25 e1 => ?_)
  refine zwl_v (fun u26 => ?_)
  exact zwl_r e1
set_option maxHeartbeats 40000 in
set_option maxRecDepth 100000 in
theorem wJ_X12_goesBy_l120 {T : zT} {k0 : Nat} {x1 : Int32} {x2 : Int32} {x4 : Int32} {x5 : Int32} {x3 : Int32} {S S0 : zS} {a b : Nat}  (hS : S.2 a b = S0.2 a b) : zwl (fX12_goesBy_l120 T k0 x1 x2 x4 x5 x3 S) (Sum.elim (fun q1 => q1.2.2 a b = S0.2 a b) (fun q1 => q1.2.2 a b = S0.2 a b)) := by
  unfold fX12_goesBy_l120
  refine zwl_i ?_ ?_
  · refine zwl_i ?_ ?_
    · refine zwl_i ?_ ?_
      · exact zwl_r hS
      · refine zwl_g ?_
        refine zwl_i ?_ ?_
        · refine zwl_b (wJ_X12_does  hS) (fun r21 S23 e1 => ?_)
          refine zwl_i ?_ ?_
          · exact (wJ_X12_goesBy_b169  e1)
          · exact (wJ_X12_goesBy_b169  e1)
        · exact zwl_r hS
    · exact zwl_r hS
  · exact zwl_r hS
set_option maxHeartbeats 40000 in
set_option maxRecDepth 100000 in
theorem wJ_X12_goesBy_b178 {T : zT} {k0 : Nat} {x1 : Int32} {x2 : Int32} {x3 : Int32} {x4 : Int32} {x5 : Int32} {S S0 : zS} {a b : Nat} (h0 : ¬ a = zr T k0 34) (h1 : ¬ a = zr T k0 35) (hS : S.2 a b = S0.2 a b) : zwl (fX12_goesBy_b178 T k0 x1 x2 x3 x4 x5 S) (Sum.elim (fun q1 => q1.2.2.2 a b = S0.2 a b) (fun q1 => q1.2.2 a b = S0.2 a b)) := by
  unfold fX12_goesBy_b178
  refine zwl_i ?_ ?_
  · refine zwl_i ?_ ?_
    · refine zwl_b (wJ_X12_ends h0 h1 hS) (fun r30 S32 e1 => ?_)
      refine zwl_i ?_ ?_
      · exact (wJ_X12_goesBy_b238  e1)
      · refine zwl_g ?_
        refine zwl_sJn e1 (fun S35 e2 => ?_)
        refine zwl_t (fun r36 => ?_)
        refine zwl_g ?_
        refine zwl_sJn e2 (fun S39 e3 => ?_)
        refine zwl_sJn e3 (fun S40 e4 => ?_)
        exact (wJ_X12_goesBy_b238  e4)
    · exact (wJ_X12_goesBy_b238  hS)
  · exact (wJ_X12_goesBy_b238  hS)
set_option maxHeartbeats 40000 in
set_option maxRecDepth 100000 in
theorem wJ_X12_goesBy_e120 {T : zT} {k0 : Nat} {x1 : Int32} {x2 : Int32} {x3 : Int32} {x4 : Int32} {x5 : Int32} {S S0 : zS} {a b : Nat} (h0 : ¬ a = zr T k0 34) (h1 : ¬ a = zr T k0 35) (hS : S.2 a b = S0.2 a b) : zwl (fX12_goesBy_e120 T k0 x1 x2 x3 x4 x5 S) (Sum.elim (fun q1 => q1.2.2.2 a b = S0.2 a b) (fun q1 => q1.2.2 a b = S0.2 a b)) := by
  unfold fX12_goesBy_e120
  refine zwl_b1 (zwl_lp (I := (fun q0 => q0.2.2 a b = S0.2 a b)) (Q := (fun q0 => q0.2.2 a b = S0.2 a b)) (fun a e3 => (wJ_X12_goesBy_l120  e3)) hS) (fun e27 e1 => ?_)
  exact (wJ_X12_goesBy_b178 h0 h1 e1)
set_option maxHeartbeats 40000 in
set_option maxRecDepth 100000 in
theorem wJ_X12_goesBy_b116 {T : zT} {k0 : Nat} {x1 : Int32} {x2 : Int32} {x3 : Int32} {x4 : Int32} {x5 : Int32} {s0 : Int32} {s1 : Int32} {s2 : Nat} {S S0 : zS} {a b : Nat} (h0 : ¬ a = zr T k0 34) (h1 : ¬ a = zr T k0 35) (hS : S.2 a b = S0.2 a b) : zwl (fX12_goesBy_b116 T k0 x1 x2 x3 x4 x5 s0 s1 s2 S) (Sum.elim (fun q1 => q1.2.2.2 a b = S0.2 a b) (fun q1 => q1.2.2 a b = S0.2 a b)) := by
  unfold fX12_goesBy_b116
  refine zwl_sJn hS (fun S49 e1 => ?_)
  exact (wJ_X12_goesBy_e120 h0 h1 e1)
set_option maxHeartbeats 40000 in
set_option maxRecDepth 100000 in
theorem wJ_X12_goesBy_b90 {T : zT} {k0 : Nat} {x1 : Int32} {x2 : Int32} {x3 : Int32} {x4 : Int32} {x5 : Int32} {s0 : Int32} {s1 : Nat} {S S0 : zS} {a b : Nat} (h0 : ¬ a = zr T k0 34) (h1 : ¬ a = zr T k0 35) (hS : S.2 a b = S0.2 a b) : zwl (fX12_goesBy_b90 T k0 x1 x2 x3 x4 x5 s0 s1 S) (Sum.elim (fun q1 => q1.2.2.2 a b = S0.2 a b) (fun q1 => q1.2.2 a b = S0.2 a b)) := by
  unfold fX12_goesBy_b90
  refine zwl_sJn hS (fun S47 e1 => ?_)
  refine zwl_i ?_ ?_
  · refine zwl_g ?_
    exact (wJ_X12_goesBy_b116 h0 h1 e1)
  · exact (wJ_X12_goesBy_b116 h0 h1 e1)
set_option maxHeartbeats 40000 in
set_option maxRecDepth 100000 in
theorem wJ_X12_goesBy_l9 {T : zT} {k0 : Nat} {x1 : Int32} {x2 : Int32} {x3 : Int32} {x4 : Int32} {S S0 : zS} {a b : Nat} (h0 : ¬ (a = k0 ∧ b = 52)) (h1 : ¬ a = zr T k0 34) (h2 : ¬ a = zr T k0 35) (hS : S.2 a b = S0.2 a b) : zwl (fX12_goesBy_l9 T k0 x1 x2 x3 x4 S) (Sum.elim (fun q1 => q1.2.2.2 a b = S0.2 a b) (fun q1 => q1.2.2 a b = S0.2 a b)) := by
  unfold fX12_goesBy_l9
  refine zwl_g ?_
  refine zwl_i ?_ ?_
  · exact zwl_r hS
  · refine zwl_b (wJ_X12_works h0 hS) (fun r6 S8 e1 => ?_)
    refine zwl_i ?_ ?_
    · refine zwl_i ?_ ?_
      · refine zwl_b (wJ_X12_loses  e1) (fun r2 S14 e3 => ?_)
        refine zwl_i ?_ ?_
        · exact (wJ_X12_goesBy_e120 h1 h2 e3)
        · refine zwl_g ?_
          refine zwl_i ?_ ?_
          · refine zwl_g ?_
            refine zwl_i ?_ ?_
            · exact (wJ_X12_goesBy_b90 h1 h2 e3)
            · exact (wJ_X12_goesBy_b90 h1 h2 e3)
          · exact (wJ_X12_goesBy_e120 h1 h2 e3)
      · exact (wJ_X12_goesBy_b238  e1)
    · exact (wJ_X12_goesBy_b238  e1)
set_option maxHeartbeats 40000 in
set_option maxRecDepth 100000 in
theorem wJ_X12_goesBy_b273 {T : zT} {S S0 : zS} {a b : Nat}  (hS : S.2 a b = S0.2 a b) : zwl (fX12_goesBy_b273 T S) (fun q0 => q0.2.2 a b = S0.2 a b) := by
  unfold fX12_goesBy_b273
  exact zwl_r hS
set_option maxHeartbeats 40000 in
set_option maxRecDepth 100000 in
theorem wJ_X12_goesBy {T : zT} {k0 : Nat} {x1 : Int32} {x2 : Int32} {S S0 : zS} {a b : Nat} (h0 : ¬ (a = k0 ∧ b = 52)) (h1 : ¬ a = zr T k0 34) (h2 : ¬ a = zr T k0 35) (hS : S.2 a b = S0.2 a b) : zwl (fX12_goesBy T k0 x1 x2 S) (fun q0 => q0.2.2 a b = S0.2 a b) := by
  unfold fX12_goesBy
  refine zwl_b (wJ_X12_begins  hS) (fun r1 S3 e2 => ?_)
  refine zwl_b1 (zwl_lp (I := (fun q0 => q0.2.2.2 a b = S0.2 a b)) (Q := (fun q0 => q0.2.2 a b = S0.2 a b)) (fun a e5 => (wJ_X12_goesBy_l9 h0 h1 h2 e5)) e2) (fun e51 e3 => ?_)
  refine zwl_i ?_ ?_
  · refine zwl_i ?_ ?_
    · refine zwl_i ?_ ?_
      · exact (wJ_X12_goesBy_b273  e3)
      · refine zwl_sJn e3 (fun S55 e6 => ?_)
        exact (wJ_X12_goesBy_b273  e6)
    · exact (wJ_X12_goesBy_b273  e3)
  · exact (wJ_X12_goesBy_b273  e3)
set_option maxHeartbeats 40000 in
set_option maxRecDepth 100000 in
theorem wJ_X12_plans_l2 {T : zT} {k0 : Nat} {x1 : Int32} {S S0 : zS} {a b : Nat}  (hS : S.2 a b = S0.2 a b) : zwl (fX12_plans_l2 T k0 x1 S) (Sum.elim (fun q1 => q1.2.2 a b = S0.2 a b) (fun q1 => q1.2 a b = S0.2 a b)) := by
  unfold fX12_plans_l2
  refine zwl_i ?_ ?_
  · exact zwl_r hS
  · refine zwl_g ?_
    refine zwl_sJn hS (fun S3 e1 => ?_)
    refine zwl_v (fun u4 => ?_)
    exact zwl_r e1
set_option maxHeartbeats 40000 in
set_option maxRecDepth 100000 in
theorem wJ_X12_plans_b205 {T : zT} {k0 : Nat} {x1 : Int32} {x2 : Int32} {S S0 : zS} {a b : Nat}  (hS : S.2 a b = S0.2 a b) : zwl (fX12_plans_b205 T k0 x1 x2 S) (Sum.elim (fun q1 => q1.2.2 a b = S0.2 a b) (fun q1 => q1.2 a b = S0.2 a b)) := by
  unfold fX12_plans_b205
  refine zwl_v (fun u12 => ?_)
  exact zwl_r hS
set_option maxHeartbeats 40000 in
set_option maxRecDepth 100000 in
theorem wJ_X12_plans_b191 {T : zT} {k0 : Nat} {x1 : Int32} {x2 : Int32} {x3 : Int32} {x4 : Int32} {x5 : Int32} {s0 : Int32} {S S0 : zS} {a b : Nat}  (hS : S.2 a b = S0.2 a b) : zwl (fX12_plans_b191 T k0 x1 x2 x3 x4 x5 s0 S) (Sum.elim (fun q1 => q1.2.2.2 a b = S0.2 a b) (fun q1 => q1.2 a b = S0.2 a b)) := by
  unfold fX12_plans_b191
  refine zwl_v (fun u26 => ?_)
  exact zwl_r hS
set_option maxHeartbeats 40000 in
set_option maxRecDepth 100000 in
theorem wJ_X12_plans_b180 {T : zT} {k0 : Nat} {x1 : Int32} {x2 : Int32} {x3 : Int32} {x4 : Int32} {x5 : Int32} {s0 : Int32} {s1 : Int32} {s2 : Nat} {m2 : Nat} {S S0 : zS} {a b : Nat}  (hS : S.2 a b = S0.2 a b) : zwl (fX12_plans_b180 T k0 x1 x2 x3 x4 x5 s0 s1 s2 m2 S) (Sum.elim (fun q1 => q1.2.2.2 a b = S0.2 a b) (fun q1 => q1.2 a b = S0.2 a b)) := by
  unfold fX12_plans_b180
  refine zwl_g ?_
  refine zwl_sJn hS (fun S24 e1 => ?_)
  refine zwl_i ?_ ?_
  · exact (wJ_X12_plans_b191  e1)
  · exact (wJ_X12_plans_b191  e1)
set_option maxHeartbeats 40000 in
set_option maxRecDepth 100000 in
theorem wJ_X12_plans_l110 {T : zT} {k0 : Nat} {x1 : Int32} {x2 : Int32} {x3 : Int32} {x4 : Int32} {x5 : Int32} {x6 : Int32} {S S0 : zS} {a b : Nat} (h0 : ¬ a = zr T k0 34) (h1 : ¬ a = zr T k0 35) (hS : S.2 a b = S0.2 a b) : zwl (fX12_plans_l110 T k0 x1 x2 x3 x4 x5 x6 S) (Sum.elim (fun q1 => q1.2.2.2 a b = S0.2 a b) (fun q1 => q1.2 a b = S0.2 a b)) := by
  unfold fX12_plans_l110
  refine zwl_i ?_ ?_
  · exact zwl_r hS
  · refine zwl_v (fun u16 => ?_)
    refine zwl_b (wJ_X12_leads h0 h1 hS) (fun r17 S19 e1 => ?_)
    refine zwl_g ?_
    refine zwl_i ?_ ?_
    · refine zwl_g ?_
      exact (wJ_X12_plans_b180  e1)
    · exact (wJ_X12_plans_b180  e1)
set_option maxHeartbeats 40000 in
set_option maxRecDepth 100000 in
theorem wJ_X12_plans_b89 {T : zT} {k0 : Nat} {x1 : Int32} {x2 : Int32} {s0 : Int32} {S S0 : zS} {a b : Nat} (h0 : ¬ a = zr T k0 34) (h1 : ¬ a = zr T k0 35) (hS : S.2 a b = S0.2 a b) : zwl (fX12_plans_b89 T k0 x1 x2 s0 S) (Sum.elim (fun q1 => q1.2.2 a b = S0.2 a b) (fun q1 => q1.2 a b = S0.2 a b)) := by
  unfold fX12_plans_b89
  refine zwl_i ?_ ?_
  · exact (wJ_X12_plans_b205  hS)
  · refine zwl_t (fun r13 => ?_)
    refine zwl_b1 (zwl_lp (I := (fun q0 => q0.2.2.2 a b = S0.2 a b)) (Q := (fun q0 => q0.2 a b = S0.2 a b)) (fun a e3 => (wJ_X12_plans_l110 h0 h1 e3)) hS) (fun e27 e1 => ?_)
    exact (wJ_X12_plans_b205  e1)
set_option maxHeartbeats 40000 in
set_option maxRecDepth 100000 in
theorem wJ_X12_plans_b71 {T : zT} {k0 : Nat} {x1 : Int32} {x2 : Int32} {S S0 : zS} {a b : Nat} (h0 : ¬ a = zr T k0 34) (h1 : ¬ a = zr T k0 35) (hS : S.2 a b = S0.2 a b) : zwl (fX12_plans_b71 T k0 x1 x2 S) (Sum.elim (fun q1 => q1.2.2 a b = S0.2 a b) (fun q1 => q1.2 a b = S0.2 a b)) := by
  unfold fX12_plans_b71
  exact (wJ_X12_plans_b89 h0 h1 hS)
set_option maxHeartbeats 40000 in
set_option maxRecDepth 100000 in
theorem wJ_X12_plans_l38 {T : zT} {k0 : Nat} {x1 : Int32} {x2 : Int32} {S S0 : zS} {a b : Nat} (h0 : ¬ a = zr T k0 34) (h1 : ¬ a = zr T k0 35) (hS : S.2 a b = S0.2 a b) : zwl (fX12_plans_l38 T k0 x1 x2 S) (Sum.elim (fun q1 => q1.2.2 a b = S0.2 a b) (fun q1 => q1.2 a b = S0.2 a b)) := by
  unfold fX12_plans_l38
  refine zwl_i ?_ ?_
  · exact zwl_r hS
  · refine zwl_i ?_ ?_
    · refine zwl_i ?_ ?_
      · refine zwl_i ?_ ?_
        · exact (wJ_X12_plans_b71 h0 h1 hS)
        · exact (wJ_X12_plans_b89 h0 h1 hS)
      · exact (wJ_X12_plans_b71 h0 h1 hS)
    · refine zwl_g ?_
      exact (wJ_X12_plans_b89 h0 h1 hS)
set_option maxHeartbeats 40000 in
set_option maxRecDepth 100000 in
theorem wJ_X12_plans_l26 {T : zT} {k0 : Nat} {x1 : Int32} {S S0 : zS} {a b : Nat} (h0 : ¬ a = zr T k0 34) (h1 : ¬ a = zr T k0 35) (hS : S.2 a b = S0.2 a b) : zwl (fX12_plans_l26 T k0 x1 S) (Sum.elim (fun q1 => q1.2.2 a b = S0.2 a b) (fun q1 => q1.2 a b = S0.2 a b)) := by
  unfold fX12_plans_l26
  refine zwl_g ?_
  refine zwl_i ?_ ?_
  · exact zwl_r hS
  · refine zwl_b1 (zwl_lp (I := (fun q0 => q0.2.2 a b = S0.2 a b)) (Q := (fun q0 => q0.2 a b = S0.2 a b)) (fun a e3 => (wJ_X12_plans_l38 h0 h1 e3)) hS) (fun e32 e1 => ?_)
    refine zwl_v (fun u33 => ?_)
    exact zwl_r e1
set_option maxHeartbeats 40000 in
set_option maxRecDepth 100000 in
theorem wJ_X12_plans {T : zT} {k0 : Nat} {S S0 : zS} {a b : Nat} (h0 : ¬ a = zr T k0 34) (h1 : ¬ a = zr T k0 35) (hS : S.2 a b = S0.2 a b) : zwl (fX12_plans T k0 S) (fun q0 => q0.2.2 a b = S0.2 a b) := by
  unfold fX12_plans
  refine zwl_b1 (zwl_lp (I := (fun q0 => q0.2.2 a b = S0.2 a b)) (Q := (fun q0 => q0.2 a b = S0.2 a b)) (fun a e3 => (wJ_X12_plans_l2  e3)) hS) (fun e5 e1 => ?_)
  refine zwl_b1 (zwl_lp (I := (fun q0 => q0.2.2 a b = S0.2 a b)) (Q := (fun q0 => q0.2 a b = S0.2 a b)) (fun a e6 => (wJ_X12_plans_l26 h0 h1 e6)) e1) (fun e36 e4 => ?_)
  exact zwl_r e4
set_option maxHeartbeats 40000 in
set_option maxRecDepth 100000 in
theorem wJ_X12_goesBack_b135 {T : zT} {k0 : Nat} {x1 : Int32} {x2 : Int32} {x4 : Int32} {s0 : Int32} {S S0 : zS} {a b : Nat}  (hS : S.2 a b = S0.2 a b) : zwl (fX12_goesBack_b135 T k0 x1 x2 x4 s0 S) (Sum.elim (fun q1 => q1.2.2.2 a b = S0.2 a b) (fun q1 => q1.2.2 a b = S0.2 a b)) := by
  unfold fX12_goesBack_b135
  refine zwl_v (fun u14 => ?_)
  exact zwl_r hS
set_option maxHeartbeats 40000 in
set_option maxRecDepth 100000 in
theorem wJ_X12_goesBack_b134 {T : zT} {k0 : Nat} {x1 : Int32} {x2 : Int32} {x3 : Int32} {x4 : Int32} {S S0 : zS} {a b : Nat}  (hS : S.2 a b = S0.2 a b) : zwl (fX12_goesBack_b134 T k0 x1 x2 x3 x4 S) (Sum.elim (fun q1 => q1.2.2.2 a b = S0.2 a b) (fun q1 => q1.2.2 a b = S0.2 a b)) := by
  unfold fX12_goesBack_b134
  exact (wJ_X12_goesBack_b135  hS)
set_option maxHeartbeats 40000 in
set_option maxRecDepth 100000 in
theorem wJ_X12_goesBack_b97 {T : zT} {k0 : Nat} {x1 : Int32} {x2 : Int32} {x3 : Int32} {x4 : Int32} {x5 : Int32} {s0 : Int32} {S S0 : zS} {a b : Nat} (h0 : ¬ a = zr T k0 34) (h1 : ¬ a = zr T k0 35) (hS : S.2 a b = S0.2 a b) : zwl (fX12_goesBack_b97 T k0 x1 x2 x3 x4 x5 s0 S) (Sum.elim (fun q1 => q1.2.2.2 a b = S0.2 a b) (fun q1 => q1.2.2 a b = S0.2 a b)) := by
  unfold fX12_goesBack_b97
  refine zwl_i ?_ ?_
  · exact (wJ_X12_goesBack_b134  hS)
  · refine zwl_b (wJ_X12_leads h0 h1 hS) (fun r15 S17 e1 => ?_)
    refine zwl_g ?_
    refine zwl_i ?_ ?_
    · exact (wJ_X12_goesBack_b135  e1)
    · exact (wJ_X12_goesBack_b134  e1)
set_option maxHeartbeats 40000 in
set_option maxRecDepth 100000 in
theorem wJ_X12_goesBack_b96 {T : zT} {k0 : Nat} {x1 : Int32} {x2 : Int32} {x3 : Int32} {x4 : Int32} {x5 : Int32} {S S0 : zS} {a b : Nat} (h0 : ¬ a = zr T k0 34) (h1 : ¬ a = zr T k0 35) (hS : S.2 a b = S0.2 a b) : zwl (fX12_goesBack_b96 T k0 x1 x2 x3 x4 x5 S) (Sum.elim (fun q1 => q1.2.2.2 a b = S0.2 a b) (fun q1 => q1.2.2 a b = S0.2 a b)) := by
  unfold fX12_goesBack_b96
  exact (wJ_X12_goesBack_b97 h0 h1 hS)
set_option maxHeartbeats 40000 in
set_option maxRecDepth 100000 in
theorem wJ_X12_goesBack_l32 {T : zT} {k0 : Nat} {x1 : Int32} {x2 : Int32} {x3 : Int32} {x4 : Int32} {S S0 : zS} {a b : Nat} (h0 : ¬ a = zr T k0 34) (h1 : ¬ a = zr T k0 35) (hS : S.2 a b = S0.2 a b) : zwl (fX12_goesBack_l32 T k0 x1 x2 x3 x4 S) (Sum.elim (fun q1 => q1.2.2.2 a b = S0.2 a b) (fun q1 => q1.2.2 a b = S0.2 a b)) := by
  unfold fX12_goesBack_l32
  refine zwl_i ?_ ?_
  · exact zwl_r hS
  · refine zwl_i ?_ ?_
    · exact zwl_r hS
    · refine zwl_g ?_
      refine zwl_v (fun u11 => ?_)
      refine zwl_i ?_ ?_
      · exact (wJ_X12_goesBack_b96 h0 h1 hS)
      · refine zwl_i ?_ ?_
        · refine zwl_t (fun r21 => ?_)
          refine zwl_i ?_ ?_
          · exact (wJ_X12_goesBack_b97 h0 h1 hS)
          · exact (wJ_X12_goesBack_b96 h0 h1 hS)
        · exact (wJ_X12_goesBack_b96 h0 h1 hS)
set_option maxHeartbeats 40000 in
set_option maxRecDepth 100000 in
theorem wJ_X12_goesBack_b142 {T : zT} {k0 : Nat} {x2 : Int32} {x3 : Int32} {S S0 : zS} {a b : Nat}  (hS : S.2 a b = S0.2 a b) : zwl (fX12_goesBack_b142 T k0 x2 x3 S) (Sum.elim (fun q1 => q1.2.2.2 a b = S0.2 a b) (fun q1 => q1.2 a b = S0.2 a b)) := by
  unfold fX12_goesBack_b142
  refine zwl_v (fun u25 => ?_)
  exact zwl_r hS
set_option maxHeartbeats 40000 in
set_option maxRecDepth 100000 in
theorem wJ_X12_goesBack_l14 {T : zT} {k0 : Nat} {x1 : Int32} {x2 : Int32} {S S0 : zS} {a b : Nat} (h0 : ¬ a = zr T k0 34) (h1 : ¬ a = zr T k0 35) (hS : S.2 a b = S0.2 a b) : zwl (fX12_goesBack_l14 T k0 x1 x2 S) (Sum.elim (fun q1 => q1.2.2.2 a b = S0.2 a b) (fun q1 => q1.2 a b = S0.2 a b)) := by
  unfold fX12_goesBack_l14
  refine zwl_i ?_ ?_
  · exact zwl_r hS
  · refine zwl_g ?_
    refine zwl_sJn hS (fun S7 e1 => ?_)
    refine zwl_b1 (zwl_lp (I := (fun q0 => q0.2.2.2 a b = S0.2 a b)) (Q := (fun q0 => q0.2.2 a b = S0.2 a b)) (fun a e4 => (wJ_X12_goesBack_l32 h0 h1 e4)) e1) (fun e24 e2 => ?_)
    exact (wJ_X12_goesBack_b142  e2)
set_option maxHeartbeats 40000 in
set_option maxRecDepth 100000 in
theorem wJ_X12_goesBack {T : zT} {k0 : Nat} {S S0 : zS} {a b : Nat} (h0 : ¬ a = zr T k0 34) (h1 : ¬ a = zr T k0 35) (hS : S.2 a b = S0.2 a b) : zwl (fX12_goesBack T k0 S) (fun q0 => q0.2.2 a b = S0.2 a b) := by
  unfold fX12_goesBack
  refine zwl_t (fun r1 => ?_)
  refine zwl_g ?_
  refine zwl_v (fun u4 => ?_)
  refine zwl_b1 (zwl_lp (I := (fun q0 => q0.2.2.2 a b = S0.2 a b)) (Q := (fun q0 => q0.2 a b = S0.2 a b)) (fun a e3 => (wJ_X12_goesBack_l14 h0 h1 e3)) hS) (fun e28 e1 => ?_)
  exact zwl_r e1
set_option maxHeartbeats 40000 in
set_option maxRecDepth 100000 in
theorem wJ_X12_likes_b56 {T : zT} {S S0 : zS} {a b : Nat}  (hS : S.2 a b = S0.2 a b) : zwl (fX12_likes_b56 T S) (fun q0 => q0.2.2 a b = S0.2 a b) := by
  unfold fX12_likes_b56
  exact zwl_r hS
set_option maxHeartbeats 40000 in
set_option maxRecDepth 100000 in
theorem wJ_X12_likes {T : zT} {k0 : Nat} {x1 : Int32} {x2 : Int32} {x3 : Int32} {x4 : Int32} {x5 : Int32} {S S0 : zS} {a b : Nat} (h0 : ¬ a = zr T k0 34) (h1 : ¬ a = zr T k0 35) (hS : S.2 a b = S0.2 a b) : zwl (fX12_likes T k0 x1 x2 x3 x4 x5 S) (fun q0 => q0.2.2 a b = S0.2 a b) := by
  unfold fX12_likes
  refine zwl_t (fun r1 => ?_)
  refine zwl_i ?_ ?_
  · exact (wJ_X12_likes_b56  hS)
  · refine zwl_t (fun r4 => ?_)
    refine zwl_i ?_ ?_
    · exact (wJ_X12_likes_b56  hS)
    · refine zwl_t (fun r7 => ?_)
      refine zwl_i ?_ ?_
      · exact (wJ_X12_likes_b56  hS)
      · refine zwl_t (fun r10 => ?_)
        refine zwl_i ?_ ?_
        · exact (wJ_X12_likes_b56  hS)
        · refine zwl_i ?_ ?_
          · exact (wJ_X12_likes_b56  hS)
          · refine zwl_t (fun r14 => ?_)
            refine zwl_i ?_ ?_
            · exact (wJ_X12_likes_b56  hS)
            · refine zwl_t (fun r17 => ?_)
              refine zwl_b (wJ_X12_likesIt h0 h1 hS) (fun r19 S21 e1 => ?_)
              exact zwl_r e1
set_option maxHeartbeats 40000 in
set_option maxRecDepth 100000 in
theorem wJ_X12_nextOf_b114 {T : zT} {k0 : Nat} {x1 : Int32} {x2 : Int32} {x3 : Int32} {x4 : Int32} {x5 : Int32} {x6 : Int32} {l7 : Int64} {x9 : Int32} {S S0 : zS} {a b : Nat}  (hS : S.2 a b = S0.2 a b) : zwl (fX12_nextOf_b114 T k0 x1 x2 x3 x4 x5 x6 l7 x9 S) (Sum.elim (fun q1 => q1.2.2.2.2 a b = S0.2 a b) (fun q1 => q1.2.2 a b = S0.2 a b)) := by
  unfold fX12_nextOf_b114
  refine zwl_v (fun u10 => ?_)
  exact zwl_r hS
set_option maxHeartbeats 40000 in
set_option maxRecDepth 100000 in
theorem wJ_X12_nextOf_b112 {T : zT} {k0 : Nat} {x1 : Int32} {x2 : Int32} {x3 : Int32} {x4 : Int32} {x5 : Int32} {x6 : Int32} {x9 : Int32} {s0 : Int64} {S S0 : zS} {a b : Nat}  (hS : S.2 a b = S0.2 a b) : zwl (fX12_nextOf_b112 T k0 x1 x2 x3 x4 x5 x6 x9 s0 S) (Sum.elim (fun q1 => q1.2.2.2.2 a b = S0.2 a b) (fun q1 => q1.2.2 a b = S0.2 a b)) := by
  unfold fX12_nextOf_b112
  exact (wJ_X12_nextOf_b114  hS)
set_option maxHeartbeats 40000 in
set_option maxRecDepth 100000 in
theorem wJ_X12_nextOf_b95 {T : zT} {k0 : Nat} {x1 : Int32} {x2 : Int32} {x3 : Int32} {x4 : Int32} {x5 : Int32} {l7 : Int64} {x9 : Int32} {l10 : Int64} {s0 : Int32} {S S0 : zS} {a b : Nat}  (hS : S.2 a b = S0.2 a b) : zwl (fX12_nextOf_b95 T k0 x1 x2 x3 x4 x5 l7 x9 l10 s0 S) (Sum.elim (fun q1 => q1.2.2.2.2 a b = S0.2 a b) (fun q1 => q1.2.2 a b = S0.2 a b)) := by
  unfold fX12_nextOf_b95
  refine zwl_i ?_ ?_
  · exact (wJ_X12_nextOf_b112  hS)
  · exact (wJ_X12_nextOf_b112  hS)
set_option maxHeartbeats 40000 in
set_option maxRecDepth 100000 in
theorem wJ_X12_nextOf_l29 {T : zT} {k0 : Nat} {x1 : Int32} {x2 : Int32} {x3 : Int32} {x4 : Int32} {x5 : Int32} {x6 : Int32} {l7 : Int64} {x9 : Int32} {S S0 : zS} {a b : Nat} (h0 : ¬ a = zr T k0 34) (h1 : ¬ a = zr T k0 35) (hS : S.2 a b = S0.2 a b) : zwl (fX12_nextOf_l29 T k0 x1 x2 x3 x4 x5 x6 l7 x9 S) (Sum.elim (fun q1 => q1.2.2.2.2 a b = S0.2 a b) (fun q1 => q1.2.2 a b = S0.2 a b)) := by
  unfold fX12_nextOf_l29
  refine zwl_i ?_ ?_
  · exact zwl_r hS
  · refine zwl_g ?_
    refine zwl_i ?_ ?_
    · refine zwl_t (fun r11 => ?_)
      refine zwl_i ?_ ?_
      · exact (wJ_X12_nextOf_b114  hS)
      · refine zwl_b (wJ_X12_likesIt h0 h1 hS) (fun r14 S16 e1 => ?_)
        refine zwl_i ?_ ?_
        · exact (wJ_X12_nextOf_b95  e1)
        · exact (wJ_X12_nextOf_b95  e1)
    · exact (wJ_X12_nextOf_b114  hS)
set_option maxHeartbeats 40000 in
set_option maxRecDepth 100000 in
theorem wJ_X12_nextOf {T : zT} {k0 : Nat} {x1 : Int32} {x2 : Int32} {S S0 : zS} {a b : Nat} (h0 : ¬ a = zr T k0 34) (h1 : ¬ a = zr T k0 35) (hS : S.2 a b = S0.2 a b) : zwl (fX12_nextOf T k0 x1 x2 S) (fun q0 => q0.2.2 a b = S0.2 a b) := by
  unfold fX12_nextOf
  refine zwl_t (fun r1 => ?_)
  refine zwl_t (fun r3 => ?_)
  refine zwl_t (fun r5 => ?_)
  refine zwl_b1 (zwl_lp (I := (fun q0 => q0.2.2.2.2 a b = S0.2 a b)) (Q := (fun q0 => q0.2.2 a b = S0.2 a b)) (fun a e3 => (wJ_X12_nextOf_l29 h0 h1 e3)) hS) (fun e19 e1 => ?_)
  exact zwl_r e1
set_option maxHeartbeats 40000 in
set_option maxRecDepth 100000 in
theorem wJ_X4_liveByRule_l35 {T : zT} {k0 : Nat} {k1 : Nat} {l2 : Int64} {x4 : Int32} {x5 : Int32} {S S0 : zS} {a b : Nat} (h0 : ¬ a = zr T (zr T k0 2) 0) (h1 : ¬ a = zr T (zr T k0 2) 1) (h2 : ¬ a = zr T (zr T k0 1) 0) (h3 : ¬ a = zr T (zr T k0 1) 1) (hS : S.2 a b = S0.2 a b) : zwl (fX4_liveByRule_l35 T k0 k1 l2 x4 x5 S) (Sum.elim (fun q1 => q1.2.2 a b = S0.2 a b) (Sum.elim (fun q2 => q2.2 a b = S0.2 a b) (fun q2 => q2.2 a b = S0.2 a b))) := by
  unfold fX4_liveByRule_l35
  refine zwl_i ?_ ?_
  · exact zwl_r hS
  · refine zwl_b (wJ_X4_likedMost h0 h1 h2 h3 hS) (fun r10 S12 e1 => ?_)
    refine zwl_i ?_ ?_
    · exact zwl_r e1
    · refine zwl_b (wJ_X4_fetchOne  e1) (fun r14 S16 e2 => ?_)
      refine zwl_i ?_ ?_
      · exact zwl_r e2
      · refine zwl_v (fun u18 => ?_)
        exact zwl_r e2
set_option maxHeartbeats 40000 in
set_option maxRecDepth 100000 in
theorem wJ_X4_liveByRule_b96 {T : zT} {k0 : Nat} {k1 : Nat} {l2 : Int64} {x4 : Int32} {s0 : Int32} {s1 : Int32} {s2 : Nat} {S S0 : zS} {a b : Nat} (h0 : ¬ a = zr T (zr T s2 1) 0) (h1 : ¬ a = zr T (zr T s2 1) 1) (hS : S.2 a b = S0.2 a b) : zwl (fX4_liveByRule_b96 T k0 k1 l2 x4 s0 s1 s2 S) (Sum.elim (fun q1 => q1.2.2 a b = S0.2 a b) (Sum.elim (fun q2 => q2.2 a b = S0.2 a b) (fun q2 => q2.2 a b = S0.2 a b))) := by
  unfold fX4_liveByRule_b96
  refine zwl_b (wJ_X4_endWeek h0 h1 hS) (fun r1 S23 e2 => ?_)
  refine zwl_t (fun r24 => ?_)
  refine zwl_i ?_ ?_
  · exact zwl_r e2
  · refine zwl_v (fun u27 => ?_)
    exact zwl_r e2
set_option maxHeartbeats 40000 in
set_option maxRecDepth 100000 in
theorem wJ_X4_liveByRule_b77 {T : zT} {k0 : Nat} {k1 : Nat} {l2 : Int64} {x4 : Int32} {S S0 : zS} {a b : Nat} (h0 : ¬ a = zr T (zr T k0 1) 0) (h1 : ¬ a = zr T (zr T k0 1) 1) (hS : S.2 a b = S0.2 a b) : zwl (fX4_liveByRule_b77 T k0 k1 l2 x4 S) (Sum.elim (fun q1 => q1.2.2 a b = S0.2 a b) (Sum.elim (fun q2 => q2.2 a b = S0.2 a b) (fun q2 => q2.2 a b = S0.2 a b))) := by
  unfold fX4_liveByRule_b77
  refine zwl_i ?_ ?_
  · exact (wJ_X4_liveByRule_b96 h0 h1 hS)
  · exact (wJ_X4_liveByRule_b96 h0 h1 hS)
set_option maxHeartbeats 40000 in
set_option maxRecDepth 100000 in
theorem wJ_X4_liveByRule_l7 {T : zT} {k0 : Nat} {k1 : Nat} {l2 : Int64} {x4 : Int32} {S S0 : zS} {a b : Nat} (h0 : ¬ a = zr T (zr T k0 2) 0) (h1 : ¬ a = zr T (zr T k0 2) 1) (h2 : ¬ a = zr T (zr T k0 1) 0) (h3 : ¬ a = zr T (zr T k0 1) 1) (hS : S.2 a b = S0.2 a b) : zwl (fX4_liveByRule_l7 T k0 k1 l2 x4 S) (Sum.elim (fun q1 => q1.2.2 a b = S0.2 a b) (Sum.elim (fun q2 => q2.2 a b = S0.2 a b) (fun q2 => q2.2 a b = S0.2 a b))) := by
  unfold fX4_liveByRule_l7
  refine zwl_i ?_ ?_
  · exact zwl_r hS
  · refine zwl_i ?_ ?_
    · exact zwl_r hS
    · refine zwl_b (wJ_X4_startWeek  hS) (fun r1 S8 e2 => ?_)
      refine zwl_b1 (zwl_lp (I := (fun q0 => q0.2.2 a b = S0.2 a b)) (Q := (Sum.elim (fun q1 => q1.2 a b = S0.2 a b) (fun q1 => q1.2 a b = S0.2 a b))) (fun a e5 => (wJ_X4_liveByRule_l35 h0 h1 h2 h3 e5)) e2) (fun e19 e3 => ?_)
      refine zwl_m e3 (fun e19_0 e6 => ?_) (fun e19_1 e7 => ?_)
      · exact (wJ_X4_liveByRule_b77 h2 h3 e6)
      · exact (wJ_X4_liveByRule_b77 h2 h3 e7)
set_option maxHeartbeats 40000 in
set_option maxRecDepth 100000 in
theorem wJ_X4_liveByRule_b113 {T : zT} {S S0 : zS} {a b : Nat}  (hS : S.2 a b = S0.2 a b) : zwl (fX4_liveByRule_b113 T S) (fun q0 => q0.2.2 a b = S0.2 a b) := by
  unfold fX4_liveByRule_b113
  exact zwl_r hS
set_option maxHeartbeats 40000 in
set_option maxRecDepth 100000 in
theorem wJ_X4_liveByRule {T : zT} {k0 : Nat} {k1 : Nat} {l2 : Int64} {S S0 : zS} {a b : Nat} (h0 : ¬ a = zr T (zr T k0 2) 0) (h1 : ¬ a = zr T (zr T k0 2) 1) (h2 : ¬ a = zr T (zr T k0 1) 0) (h3 : ¬ a = zr T (zr T k0 1) 1) (hS : S.2 a b = S0.2 a b) : zwl (fX4_liveByRule T k0 k1 l2 S) (fun q0 => q0.2.2 a b = S0.2 a b) := by
  unfold fX4_liveByRule
  refine zwl_b (wJ_X4_begin  hS) (fun r1 S3 e2 => ?_)
  refine zwl_b1 (zwl_lp (I := (fun q0 => q0.2.2 a b = S0.2 a b)) (Q := (Sum.elim (fun q1 => q1.2 a b = S0.2 a b) (fun q1 => q1.2 a b = S0.2 a b))) (fun a e5 => (wJ_X4_liveByRule_l7 h0 h1 h2 h3 e5)) e2) (fun e30 e3 => ?_)
  refine zwl_m e3 (fun e30_0 e6 => ?_) (fun e30_1 e7 => ?_)
  · exact (wJ_X4_liveByRule_b113  e6)
  · exact zwl_r e7
set_option maxHeartbeats 40000 in
set_option maxRecDepth 100000 in
theorem wJ_X10_splitOne_b244 {T : zT} {k0 : Nat} {x3 : Int32} {x4 : Int32} {S S0 : zS} {a b : Nat}  (hS : S.2 a b = S0.2 a b) : zwl (fX10_splitOne_b244 T k0 x3 x4 S) (fun q0 => q0.2.2 a b = S0.2 a b) := by
  unfold fX10_splitOne_b244
  refine zwl_t (fun r7 => ?_)
  refine zwl_b (wJ_X10_add  hS) (fun r1 S11 e2 => ?_)
  exact zwl_r e2
set_option maxHeartbeats 40000 in
set_option maxRecDepth 100000 in
theorem wJ_X10_splitOne_b235 {T : zT} {x3 : Int32} {s0 : Int32} {s1 : Nat} {S S0 : zS} {a b : Nat}  (hS : S.2 a b = S0.2 a b) : zwl (fX10_splitOne_b235 T x3 s0 s1 S) (fun q0 => q0.2.2 a b = S0.2 a b) := by
  unfold fX10_splitOne_b235
  refine zwl_b (wJ_X10_add  hS) (fun r1 S16 e2 => ?_)
  exact zwl_r e2
set_option maxHeartbeats 40000 in
set_option maxRecDepth 100000 in
theorem wJ_X10_splitOne_b220 {T : zT} {k0 : Nat} {x3 : Int32} {x4 : Int32} {S S0 : zS} {a b : Nat}  (hS : S.2 a b = S0.2 a b) : zwl (fX10_splitOne_b220 T k0 x3 x4 S) (fun q0 => q0.2.2 a b = S0.2 a b) := by
  unfold fX10_splitOne_b220
  refine zwl_i ?_ ?_
  · exact (wJ_X10_splitOne_b235  hS)
  · exact (wJ_X10_splitOne_b235  hS)
set_option maxHeartbeats 40000 in
set_option maxRecDepth 100000 in
theorem wJ_X10_splitOne_b199 {T : zT} {k0 : Nat} {x3 : Int32} {x4 : Int32} {s0 : Int32} {S S0 : zS} {a b : Nat}  (hS : S.2 a b = S0.2 a b) : zwl (fX10_splitOne_b199 T k0 x3 x4 s0 S) (fun q0 => q0.2.2 a b = S0.2 a b) := by
  unfold fX10_splitOne_b199
  refine zwl_i ?_ ?_
  · exact (wJ_X10_splitOne_b244  hS)
  · refine zwl_i ?_ ?_
    · exact (wJ_X10_splitOne_b220  hS)
    · refine zwl_i ?_ ?_
      · exact (wJ_X10_splitOne_b220  hS)
      · exact (wJ_X10_splitOne_b244  hS)
set_option maxHeartbeats 40000 in
set_option maxRecDepth 100000 in
theorem wJ_X10_splitOne_b198 {T : zT} {k0 : Nat} {x3 : Int32} {x4 : Int32} {S S0 : zS} {a b : Nat}  (hS : S.2 a b = S0.2 a b) : zwl (fX10_splitOne_b198 T k0 x3 x4 S) (fun q0 => q0.2.2 a b = S0.2 a b) := by
  unfold fX10_splitOne_b198
  exact (wJ_X10_splitOne_b199  hS)
set_option maxHeartbeats 40000 in
set_option maxRecDepth 100000 in
theorem wJ_X10_splitOne_b169 {T : zT} {k0 : Nat} {k1 : Nat} {n1 : Nat} {x2 : Int32} {x3 : Int32} {x4 : Int32} {S S0 : zS} {a b : Nat}  (hS : S.2 a b = S0.2 a b) : zwl (fX10_splitOne_b169 T k0 k1 n1 x2 x3 x4 S) (fun q0 => q0.2.2 a b = S0.2 a b) := by
  unfold fX10_splitOne_b169
  refine zwl_i ?_ ?_
  · exact (wJ_X10_splitOne_b198  hS)
  · refine zwl_i ?_ ?_
    · exact (wJ_X10_splitOne_b198  hS)
    · refine zwl_g ?_
      refine zwl_i ?_ ?_
      · exact (wJ_X10_splitOne_b199  hS)
      · exact (wJ_X10_splitOne_b198  hS)
set_option maxHeartbeats 40000 in
set_option maxRecDepth 100000 in
theorem wJ_X10_splitOne_b162 {T : zT} {x3 : Int32} {x5 : Int32} {s0 : Int32} {s1 : Int32} {s2 : Nat} {S S0 : zS} {a b : Nat}  (hS : S.2 a b = S0.2 a b) : zwl (fX10_splitOne_b162 T x3 x5 s0 s1 s2 S) (fun q0 => q0.2.2 a b = S0.2 a b) := by
  unfold fX10_splitOne_b162
  refine zwl_b (wJ_X10_add  hS) (fun r1 S31 e2 => ?_)
  exact zwl_r e2
set_option maxHeartbeats 40000 in
set_option maxRecDepth 100000 in
theorem wJ_X10_splitOne_b148 {T : zT} {x3 : Int32} {x4 : Int32} {x5 : Int32} {x6 : Int32} {s0 : Int32} {s1 : Nat} {S S0 : zS} {a b : Nat}  (hS : S.2 a b = S0.2 a b) : zwl (fX10_splitOne_b148 T x3 x4 x5 x6 s0 s1 S) (fun q0 => q0.2.2 a b = S0.2 a b) := by
  unfold fX10_splitOne_b148
  refine zwl_i ?_ ?_
  · exact (wJ_X10_splitOne_b162  hS)
  · exact (wJ_X10_splitOne_b162  hS)
set_option maxHeartbeats 40000 in
set_option maxRecDepth 100000 in
theorem wJ_X10_splitOne_b128 {T : zT} {k0 : Nat} {k1 : Nat} {n1 : Nat} {x3 : Int32} {x4 : Int32} {x5 : Int32} {s0 : Int32} {S S0 : zS} {a b : Nat}  (hS : S.2 a b = S0.2 a b) : zwl (fX10_splitOne_b128 T k0 k1 n1 x3 x4 x5 s0 S) (fun q0 => q0.2.2 a b = S0.2 a b) := by
  unfold fX10_splitOne_b128
  refine zwl_i ?_ ?_
  · refine zwl_t (fun r26 => ?_)
    exact (wJ_X10_splitOne_b148  hS)
  · exact (wJ_X10_splitOne_b148  hS)
set_option maxHeartbeats 40000 in
set_option maxRecDepth 100000 in
theorem wJ_X10_splitOne_b127 {T : zT} {k0 : Nat} {k1 : Nat} {n1 : Nat} {x3 : Int32} {x4 : Int32} {x5 : Int32} {S S0 : zS} {a b : Nat}  (hS : S.2 a b = S0.2 a b) : zwl (fX10_splitOne_b127 T k0 k1 n1 x3 x4 x5 S) (fun q0 => q0.2.2 a b = S0.2 a b) := by
  unfold fX10_splitOne_b127
  exact (wJ_X10_splitOne_b128  hS)
set_option maxHeartbeats 40000 in
set_option maxRecDepth 100000 in
theorem wJ_X10_splitOne_b82 {T : zT} {k0 : Nat} {k1 : Nat} {n1 : Nat} {x2 : Int32} {x3 : Int32} {x4 : Int32} {S S0 : zS} {a b : Nat}  (hS : S.2 a b = S0.2 a b) : zwl (fX10_splitOne_b82 T k0 k1 n1 x2 x3 x4 S) (fun q0 => q0.2.2 a b = S0.2 a b) := by
  unfold fX10_splitOne_b82
  refine zwl_i ?_ ?_
  · exact (wJ_X10_splitOne_b169  hS)
  · refine zwl_i ?_ ?_
    · exact (wJ_X10_splitOne_b169  hS)
    · refine zwl_t (fun r22 => ?_)
      refine zwl_i ?_ ?_
      · refine zwl_i ?_ ?_
        · exact (wJ_X10_splitOne_b127  hS)
        · exact (wJ_X10_splitOne_b128  hS)
      · exact (wJ_X10_splitOne_b127  hS)
set_option maxHeartbeats 40000 in
set_option maxRecDepth 100000 in
theorem wJ_X10_splitOne_b75 {T : zT} {x3 : Int32} {x5 : Int32} {s0 : Int32} {s1 : Int32} {s2 : Nat} {S S0 : zS} {a b : Nat}  (hS : S.2 a b = S0.2 a b) : zwl (fX10_splitOne_b75 T x3 x5 s0 s1 s2 S) (fun q0 => q0.2.2 a b = S0.2 a b) := by
  unfold fX10_splitOne_b75
  refine zwl_b (wJ_X10_add  hS) (fun r1 S43 e2 => ?_)
  exact zwl_r e2
set_option maxHeartbeats 40000 in
set_option maxRecDepth 100000 in
theorem wJ_X10_splitOne_b59 {T : zT} {k1 : Nat} {n1 : Nat} {x3 : Int32} {x5 : Int32} {x6 : Int32} {s0 : Int32} {s1 : Nat} {S S0 : zS} {a b : Nat}  (hS : S.2 a b = S0.2 a b) : zwl (fX10_splitOne_b59 T k1 n1 x3 x5 x6 s0 s1 S) (fun q0 => q0.2.2 a b = S0.2 a b) := by
  unfold fX10_splitOne_b59
  refine zwl_i ?_ ?_
  · refine zwl_t (fun r39 => ?_)
    exact (wJ_X10_splitOne_b75  hS)
  · exact (wJ_X10_splitOne_b75  hS)
set_option maxHeartbeats 40000 in
set_option maxRecDepth 100000 in
theorem wJ_X10_splitOne_b44 {T : zT} {k0 : Nat} {k1 : Nat} {n1 : Nat} {x3 : Int32} {x5 : Int32} {s0 : Int32} {S S0 : zS} {a b : Nat}  (hS : S.2 a b = S0.2 a b) : zwl (fX10_splitOne_b44 T k0 k1 n1 x3 x5 s0 S) (fun q0 => q0.2.2 a b = S0.2 a b) := by
  unfold fX10_splitOne_b44
  refine zwl_i ?_ ?_
  · exact (wJ_X10_splitOne_b59  hS)
  · exact (wJ_X10_splitOne_b59  hS)
set_option maxHeartbeats 40000 in
set_option maxRecDepth 100000 in
theorem wJ_X10_splitOne {T : zT} {k0 : Nat} {k1 : Nat} {n1 : Nat} {x2 : Int32} {x3 : Int32} {S S0 : zS} {a b : Nat}  (hS : S.2 a b = S0.2 a b) : zwl (fX10_splitOne T k0 k1 n1 x2 x3 S) (fun q0 => q0.2.2 a b = S0.2 a b) := by
  unfold fX10_splitOne
  refine zwl_g ?_
  refine zwl_v (fun u2 => ?_)
  refine zwl_i ?_ ?_
  · exact (wJ_X10_splitOne_b82  hS)
  · refine zwl_i ?_ ?_
    · exact (wJ_X10_splitOne_b82  hS)
    · refine zwl_t (fun r34 => ?_)
      refine zwl_i ?_ ?_
      · exact (wJ_X10_splitOne_b44  hS)
      · exact (wJ_X10_splitOne_b44  hS)
set_option maxHeartbeats 40000 in
set_option maxRecDepth 100000 in
theorem wJ_X11_judged {T : zT} {k0 : Nat} {x1 : Int32} {S S0 : zS} {a b : Nat} (h0 : ¬ a = zr T (zr T (zr T k0 12) 1) 0) (h1 : ¬ a = zr T (zr T (zr T k0 12) 1) 1) (hS : S.2 a b = S0.2 a b) : zwl (fX11_judged T k0 x1 S) (fun q0 => q0.2.2 a b = S0.2 a b) := by
  unfold fX11_judged
  refine zwl_b (wJ_X4_liveByRow h0 h1 hS) (fun r1 S3 e2 => ?_)
  refine zwl_i ?_ ?_
  · exact zwl_r e2
  · refine zwl_i ?_ ?_
    · exact zwl_r e2
    · refine zwl_i ?_ ?_
      · exact zwl_r e2
      · refine zwl_i ?_ ?_
        · exact zwl_r e2
        · refine zwl_i ?_ ?_
          · exact zwl_r e2
          · exact zwl_r e2
set_option maxHeartbeats 40000 in
set_option maxRecDepth 100000 in
theorem wJ_X11_then_b35 {T : zT} {S S0 : zS} {a b : Nat}  (hS : S.2 a b = S0.2 a b) : zwl (fX11_then_b35 T S) (fun q0 => q0.2.2 a b = S0.2 a b) := by
  unfold fX11_then_b35
  exact zwl_r hS
set_option maxHeartbeats 40000 in
set_option maxRecDepth 100000 in
theorem wJ_X11_then_b71 {T : zT} {s0 : Int32} {S S0 : zS} {a b : Nat}  (hS : S.2 a b = S0.2 a b) : zwl (fX11_then_b71 T s0 S) (fun q0 => q0.2.2 a b = S0.2 a b) := by
  unfold fX11_then_b71
  exact zwl_r hS
set_option maxHeartbeats 40000 in
set_option maxRecDepth 100000 in
theorem wJ_X11_then {T : zT} {k0 : Nat} {x1 : Int32} {x2 : Int32} {S S0 : zS} {a b : Nat} (h0 : ¬ a = zr T (zr T (zr T k0 12) 1) 0) (h1 : ¬ a = zr T (zr T (zr T k0 12) 1) 1) (hS : S.2 a b = S0.2 a b) : zwl (fX11_then T k0 x1 x2 S) (fun q0 => q0.2.2 a b = S0.2 a b) := by
  unfold fX11_then
  refine zwl_b (wJ_X4_liveByRow h0 h1 hS) (fun r1 S3 e2 => ?_)
  refine zwl_i ?_ ?_
  · exact (wJ_X11_then_b35  e2)
  · refine zwl_i ?_ ?_
    · exact (wJ_X11_then_b35  e2)
    · refine zwl_i ?_ ?_
      · refine zwl_i ?_ ?_
        · refine zwl_g ?_
          exact zwl_r e2
        · refine zwl_i ?_ ?_
          · refine zwl_g ?_
            exact (wJ_X11_then_b71  e2)
          · exact (wJ_X11_then_b71  e2)
      · exact (wJ_X11_then_b35  e2)
set_option maxHeartbeats 40000 in
set_option maxRecDepth 100000 in
theorem wJ_X11_readyPlans {T : zT} {k0 : Nat} {S S0 : zS} {a b : Nat} (h0 : ¬ a = zr T (zr T (zr T k0 13) 1) 0) (h1 : ¬ a = zr T (zr T (zr T k0 13) 1) 1) (hS : S.2 a b = S0.2 a b) : zwl (fX11_readyPlans T k0 S) (fun q0 => q0.2.2 a b = S0.2 a b) := by
  unfold fX11_readyPlans
  refine zwl_b (wJ_X5_prepare h0 h1 hS) (fun r1 S3 e2 => ?_)
  exact zwl_r e2
set_option maxHeartbeats 40000 in
set_option maxRecDepth 100000 in
theorem wJ_X11_holds_b75 {T : zT} {k0 : Nat} {x2 : Int32} {x3 : Int32} {x4 : Int32} {S S0 : zS} {a b : Nat}  (hS : S.2 a b = S0.2 a b) : zwl (fX11_holds_b75 T k0 x2 x3 x4 S) (Sum.elim (fun q1 => q1.2.2.2 a b = S0.2 a b) (fun q1 => q1.2.2 a b = S0.2 a b)) := by
  unfold fX11_holds_b75
  refine zwl_v (fun u15 => ?_)
  exact zwl_r hS
set_option maxHeartbeats 40000 in
set_option maxRecDepth 100000 in
theorem wJ_X11_holds_l24 {T : zT} {k0 : Nat} {x2 : Int32} {x3 : Int32} {x4 : Int32} {S S0 : zS} {a b : Nat} (h0 : ¬ (a = zr T k0 14 ∧ b = 0)) (h1 : ¬ a = zr T (zr T (zr T k0 12) 1) 0) (h2 : ¬ a = zr T (zr T (zr T k0 12) 1) 1) (hS : S.2 a b = S0.2 a b) : zwl (fX11_holds_l24 T k0 x2 x3 x4 S) (Sum.elim (fun q1 => q1.2.2.2 a b = S0.2 a b) (fun q1 => q1.2.2 a b = S0.2 a b)) := by
  unfold fX11_holds_l24
  refine zwl_i ?_ ?_
  · exact zwl_r hS
  · refine zwl_b (wJ_X3_work h0 hS) (fun r6 S8 e1 => ?_)
    refine zwl_b (wJ_X4_liveByRow h1 h2 e1) (fun r2 S11 e3 => ?_)
    refine zwl_t (fun r12 => ?_)
    refine zwl_i ?_ ?_
    · exact (wJ_X11_holds_b75  e3)
    · refine zwl_v (fun u16 => ?_)
      exact (wJ_X11_holds_b75  e3)
set_option maxHeartbeats 40000 in
set_option maxRecDepth 100000 in
theorem wJ_X11_holds {T : zT} {k0 : Nat} {x1 : Int32} {x2 : Int32} {S S0 : zS} {a b : Nat} (h0 : ¬ (a = zr T k0 14 ∧ b = 0)) (h1 : ¬ a = zr T (zr T (zr T k0 12) 1) 0) (h2 : ¬ a = zr T (zr T (zr T k0 12) 1) 1) (hS : S.2 a b = S0.2 a b) : zwl (fX11_holds T k0 x1 x2 S) (fun q0 => q0.2.2 a b = S0.2 a b) := by
  unfold fX11_holds
  refine zwl_t (fun r1 => ?_)
  refine zwl_i ?_ ?_
  · exact zwl_r hS
  · refine zwl_sJf h0 hS (fun S4 e1 => ?_)
    refine zwl_b1 (zwl_lp (I := (fun q0 => q0.2.2.2 a b = S0.2 a b)) (Q := (fun q0 => q0.2.2 a b = S0.2 a b)) (fun a e4 => (wJ_X11_holds_l24 h0 h1 h2 e4)) e1) (fun e17 e2 => ?_)
    exact zwl_r e2
set_option maxHeartbeats 40000 in
set_option maxRecDepth 100000 in
theorem wJ_X11_surely_b72 {T : zT} {k0 : Nat} {x1 : Int32} {x2 : Int32} {S S0 : zS} {a b : Nat}  (hS : S.2 a b = S0.2 a b) : zwl (fX11_surely_b72 T k0 x1 x2 S) (Sum.elim (fun q1 => q1.2.2.2 a b = S0.2 a b) (fun q1 => q1.2.2 a b = S0.2 a b)) := by
  unfold fX11_surely_b72
  refine zwl_v (fun u6 => ?_)
  exact zwl_r hS
set_option maxHeartbeats 40000 in
set_option maxRecDepth 100000 in
theorem wJ_X11_surely_b70 {T : zT} {k0 : Nat} {x2 : Int32} {s0 : Int32} {s1 : Int32} {S S0 : zS} {a b : Nat}  (hS : S.2 a b = S0.2 a b) : zwl (fX11_surely_b70 T k0 x2 s0 s1 S) (Sum.elim (fun q1 => q1.2.2.2 a b = S0.2 a b) (fun q1 => q1.2.2 a b = S0.2 a b)) := by
  unfold fX11_surely_b70
  refine zwl_v (fun u13 => ?_)
  exact (wJ_X11_surely_b72  hS)
set_option maxHeartbeats 40000 in
set_option maxRecDepth 100000 in
theorem wJ_X11_surely_l18 {T : zT} {k0 : Nat} {x1 : Int32} {x2 : Int32} {S S0 : zS} {a b : Nat} (h0 : ¬ a = zr T (zr T (zr T k0 12) 1) 0) (h1 : ¬ a = zr T (zr T (zr T k0 12) 1) 1) (hS : S.2 a b = S0.2 a b) : zwl (fX11_surely_l18 T k0 x1 x2 S) (Sum.elim (fun q1 => q1.2.2.2 a b = S0.2 a b) (fun q1 => q1.2.2 a b = S0.2 a b)) := by
  unfold fX11_surely_l18
  refine zwl_i ?_ ?_
  · exact zwl_r hS
  · refine zwl_t (fun r3 => ?_)
    refine zwl_i ?_ ?_
    · exact (wJ_X11_surely_b72  hS)
    · refine zwl_b (wJ_X4_liveByRow h0 h1 hS) (fun r1 S9 e2 => ?_)
      refine zwl_t (fun r10 => ?_)
      refine zwl_i ?_ ?_
      · exact (wJ_X11_surely_b70  e2)
      · exact (wJ_X11_surely_b70  e2)
set_option maxHeartbeats 40000 in
set_option maxRecDepth 100000 in
theorem wJ_X11_surely {T : zT} {k0 : Nat} {S S0 : zS} {a b : Nat} (h0 : ¬ a = zr T (zr T (zr T k0 12) 1) 0) (h1 : ¬ a = zr T (zr T (zr T k0 12) 1) 1) (hS : S.2 a b = S0.2 a b) : zwl (fX11_surely T k0 S) (fun q0 => q0.2.2 a b = S0.2 a b) := by
  unfold fX11_surely
  refine zwl_i ?_ ?_
  · refine zwl_b1 (zwl_lp (I := (fun q0 => q0.2.2.2 a b = S0.2 a b)) (Q := (fun q0 => q0.2.2 a b = S0.2 a b)) (fun a e3 => (wJ_X11_surely_l18 h0 h1 e3)) hS) (fun e14 e1 => ?_)
    exact zwl_r e1
  · exact zwl_r hS
set_option maxHeartbeats 40000 in
set_option maxRecDepth 100000 in
theorem wJ_X12_term_b49 {T : zT} {k0 : Nat} {s0 : Int32} {S S0 : zS} {a b : Nat}  (hS : S.2 a b = S0.2 a b) : zwl (fX12_term_b49 T k0 s0 S) (Sum.elim (fun q1 => q1.2 a b = S0.2 a b) (fun q1 => q1.2 a b = S0.2 a b)) := by
  unfold fX12_term_b49
  refine zwl_sJn hS (fun S14 e1 => ?_)
  refine zwl_b (wJ_X12_value  e1) (fun r2 S17 e3 => ?_)
  refine zwl_b (wJ_X12_entry  e3) (fun r4 S20 e5 => ?_)
  refine zwl_b (wJ_X12_blanks  e5) (fun r6 S23 e7 => ?_)
  exact zwl_r e7
set_option maxHeartbeats 40000 in
set_option maxRecDepth 100000 in
theorem wJ_X12_term_b33 {T : zT} {k0 : Nat} {S S0 : zS} {a b : Nat}  (hS : S.2 a b = S0.2 a b) : zwl (fX12_term_b33 T k0 S) (Sum.elim (fun q1 => q1.2 a b = S0.2 a b) (fun q1 => q1.2 a b = S0.2 a b)) := by
  unfold fX12_term_b33
  refine zwl_t (fun r11 => ?_)
  refine zwl_i ?_ ?_
  · exact (wJ_X12_term_b49  hS)
  · exact (wJ_X12_term_b49  hS)
set_option maxHeartbeats 40000 in
set_option maxRecDepth 100000 in
theorem wJ_X12_term_l8 {T : zT} {k0 : Nat} {S S0 : zS} {a b : Nat}  (hS : S.2 a b = S0.2 a b) : zwl (fX12_term_l8 T k0 S) (Sum.elim (fun q1 => q1.2 a b = S0.2 a b) (fun q1 => q1.2 a b = S0.2 a b)) := by
  unfold fX12_term_l8
  refine zwl_i ?_ ?_
  · refine zwl_t (fun r8 => ?_)
    refine zwl_i ?_ ?_
    · exact (wJ_X12_term_b33  hS)
    · refine zwl_t (fun r24 => ?_)
      refine zwl_i ?_ ?_
      · exact (wJ_X12_term_b33  hS)
      · exact zwl_r hS
  · exact zwl_r hS
set_option maxHeartbeats 40000 in
set_option maxRecDepth 100000 in
theorem wJ_X12_term_b77 {T : zT} {S S0 : zS} {a b : Nat}  (hS : S.2 a b = S0.2 a b) : zwl (fX12_term_b77 T S) (fun q0 => q0.2.2 a b = S0.2 a b) := by
  unfold fX12_term_b77
  exact zwl_r hS
set_option maxHeartbeats 40000 in
set_option maxRecDepth 100000 in
theorem wJ_X12_term {T : zT} {k0 : Nat} {S S0 : zS} {a b : Nat}  (hS : S.2 a b = S0.2 a b) : zwl (fX12_term T k0 S) (fun q0 => q0.2.2 a b = S0.2 a b) := by
  unfold fX12_term
  refine zwl_b (wJ_X12_value  hS) (fun r1 S3 e2 => ?_)
  refine zwl_b (wJ_X12_blanks  e2) (fun r3 S6 e4 => ?_)
  refine zwl_b1 (zwl_lp (I := (fun q0 => q0.2 a b = S0.2 a b)) (Q := (fun q0 => q0.2 a b = S0.2 a b)) (fun a e7 => (wJ_X12_term_l8  e7)) e4) (fun e27 e5 => ?_)
  exact (wJ_X12_term_b77  e5)
set_option maxHeartbeats 40000 in
set_option maxRecDepth 100000 in
theorem wJ_X12_onceClause_b119 {T : zT} {S S0 : zS} {a b : Nat}  (hS : S.2 a b = S0.2 a b) : zwl (fX12_onceClause_b119 T S) (fun q0 => q0.2.2 a b = S0.2 a b) := by
  unfold fX12_onceClause_b119
  exact zwl_r hS
set_option maxHeartbeats 40000 in
set_option maxRecDepth 100000 in
theorem wJ_X12_onceClause_b106 {T : zT} {k0 : Nat} {S S0 : zS} {a b : Nat}  (hS : S.2 a b = S0.2 a b) : zwl (fX12_onceClause_b106 T k0 S) (fun q0 => q0.2.2 a b = S0.2 a b) := by
  unfold fX12_onceClause_b106
  refine zwl_b (wJ_X12_amount  hS) (fun r10 S12 e1 => ?_)
  refine zwl_g ?_
  refine zwl_sJn e1 (fun S14 e2 => ?_)
  exact (wJ_X12_onceClause_b119  e2)
set_option maxHeartbeats 40000 in
set_option maxRecDepth 100000 in
theorem wJ_X12_onceClause {T : zT} {k0 : Nat} {x1 : Int32} {S S0 : zS} {a b : Nat}  (hS : S.2 a b = S0.2 a b) : zwl (fX12_onceClause T k0 x1 S) (fun q0 => q0.2.2 a b = S0.2 a b) := by
  unfold fX12_onceClause
  refine zwl_i ?_ ?_
  · refine zwl_b (wJ_X12_amount  hS) (fun r32 S34 e1 => ?_)
    refine zwl_g ?_
    refine zwl_sJn e1 (fun S36 e2 => ?_)
    exact (wJ_X12_onceClause_b119  e2)
  · refine zwl_i ?_ ?_
    · refine zwl_b (wJ_X12_amount  hS) (fun r27 S29 e3 => ?_)
      refine zwl_g ?_
      refine zwl_sJn e3 (fun S31 e4 => ?_)
      exact (wJ_X12_onceClause_b119  e4)
    · refine zwl_i ?_ ?_
      · refine zwl_b (wJ_X12_amount  hS) (fun r22 S24 e5 => ?_)
        refine zwl_g ?_
        refine zwl_sJn e5 (fun S26 e6 => ?_)
        exact (wJ_X12_onceClause_b119  e6)
      · refine zwl_b (wJ_X12_amount  hS) (fun r4 S6 e7 => ?_)
        refine zwl_g ?_
        refine zwl_sJn e7 (fun S8 e8 => ?_)
        refine zwl_i ?_ ?_
        · refine zwl_b (wJ_X12_takes  e8) (fun r15 S17 e9 => ?_)
          refine zwl_i ?_ ?_
          · refine zwl_b (wJ_X12_fails  e9) (fun r10 S21 e11 => ?_)
            exact (wJ_X12_onceClause_b106  e11)
          · exact (wJ_X12_onceClause_b106  e9)
        · exact (wJ_X12_onceClause_b106  e8)
set_option maxHeartbeats 40000 in
set_option maxRecDepth 100000 in
theorem wJ_X12_judged {T : zT} {k0 : Nat} {x1 : Int32} {S S0 : zS} {a b : Nat} (h0 : ¬ (a = k0 ∧ b = 52)) (h1 : ¬ a = zr T k0 34) (h2 : ¬ a = zr T k0 35) (hS : S.2 a b = S0.2 a b) : zwl (fX12_judged T k0 x1 S) (fun q0 => q0.2.2 a b = S0.2 a b) := by
  unfold fX12_judged
  refine zwl_b (wJ_X12_goesBy h0 h1 h2 hS) (fun r1 S3 e2 => ?_)
  refine zwl_i ?_ ?_
  · exact zwl_r e2
  · refine zwl_i ?_ ?_
    · exact zwl_r e2
    · refine zwl_i ?_ ?_
      · exact zwl_r e2
      · refine zwl_i ?_ ?_
        · refine zwl_t (fun r8 => ?_)
          exact zwl_r e2
        · refine zwl_i ?_ ?_
          · refine zwl_t (fun r11 => ?_)
            exact zwl_r e2
          · exact zwl_r e2
set_option maxHeartbeats 40000 in
set_option maxRecDepth 100000 in
theorem wJ_X12_then_b56 {T : zT} {s0 : Int32} {S S0 : zS} {a b : Nat}  (hS : S.2 a b = S0.2 a b) : zwl (fX12_then_b56 T s0 S) (fun q0 => q0.2.2 a b = S0.2 a b) := by
  unfold fX12_then_b56
  exact zwl_r hS
set_option maxHeartbeats 40000 in
set_option maxRecDepth 100000 in
theorem wJ_X12_then_b32 {T : zT} {S S0 : zS} {a b : Nat}  (hS : S.2 a b = S0.2 a b) : zwl (fX12_then_b32 T S) (fun q0 => q0.2.2 a b = S0.2 a b) := by
  unfold fX12_then_b32
  exact (wJ_X12_then_b56  hS)
set_option maxHeartbeats 40000 in
set_option maxRecDepth 100000 in
theorem wJ_X12_then {T : zT} {k0 : Nat} {x1 : Int32} {x2 : Int32} {S S0 : zS} {a b : Nat} (h0 : ¬ (a = k0 ∧ b = 52)) (h1 : ¬ a = zr T k0 34) (h2 : ¬ a = zr T k0 35) (hS : S.2 a b = S0.2 a b) : zwl (fX12_then T k0 x1 x2 S) (fun q0 => q0.2.2 a b = S0.2 a b) := by
  unfold fX12_then
  refine zwl_b (wJ_X12_goesBy h0 h1 h2 hS) (fun r1 S3 e2 => ?_)
  refine zwl_t (fun r4 => ?_)
  refine zwl_i ?_ ?_
  · exact (wJ_X12_then_b32  e2)
  · refine zwl_t (fun r7 => ?_)
    refine zwl_i ?_ ?_
    · exact (wJ_X12_then_b32  e2)
    · refine zwl_i ?_ ?_
      · refine zwl_g ?_
        exact (wJ_X12_then_b56  e2)
      · refine zwl_g ?_
        exact (wJ_X12_then_b56  e2)
set_option maxHeartbeats 40000 in
set_option maxRecDepth 100000 in
theorem wJ_X12_holds_b16 {T : zT} {S S0 : zS} {a b : Nat}  (hS : S.2 a b = S0.2 a b) : zwl (fX12_holds_b16 T S) (fun q0 => q0.2.2 a b = S0.2 a b) := by
  unfold fX12_holds_b16
  exact zwl_r hS
set_option maxHeartbeats 40000 in
set_option maxRecDepth 100000 in
theorem wJ_X12_holds_b63 {T : zT} {k0 : Nat} {x2 : Int32} {x4 : Int32} {s0 : Int32} {s1 : Int32} {S S0 : zS} {a b : Nat}  (hS : S.2 a b = S0.2 a b) : zwl (fX12_holds_b63 T k0 x2 x4 s0 s1 S) (Sum.elim (fun q1 => q1.2.2.2 a b = S0.2 a b) (fun q1 => q1.2.2 a b = S0.2 a b)) := by
  unfold fX12_holds_b63
  refine zwl_v (fun u11 => ?_)
  refine zwl_v (fun u12 => ?_)
  exact zwl_r hS
set_option maxHeartbeats 40000 in
set_option maxRecDepth 100000 in
theorem wJ_X12_holds_b62 {T : zT} {k0 : Nat} {x2 : Int32} {x4 : Int32} {s0 : Int32} {S S0 : zS} {a b : Nat}  (hS : S.2 a b = S0.2 a b) : zwl (fX12_holds_b62 T k0 x2 x4 s0 S) (Sum.elim (fun q1 => q1.2.2.2 a b = S0.2 a b) (fun q1 => q1.2.2 a b = S0.2 a b)) := by
  unfold fX12_holds_b62
  exact (wJ_X12_holds_b63  hS)
set_option maxHeartbeats 40000 in
set_option maxRecDepth 100000 in
theorem wJ_X12_holds_l29 {T : zT} {k0 : Nat} {x2 : Int32} {x3 : Int32} {x4 : Int32} {S S0 : zS} {a b : Nat} (h0 : ¬ (a = k0 ∧ b = 52)) (h1 : ¬ a = zr T k0 34) (h2 : ¬ a = zr T k0 35) (hS : S.2 a b = S0.2 a b) : zwl (fX12_holds_l29 T k0 x2 x3 x4 S) (Sum.elim (fun q1 => q1.2.2.2 a b = S0.2 a b) (fun q1 => q1.2.2 a b = S0.2 a b)) := by
  unfold fX12_holds_l29
  refine zwl_i ?_ ?_
  · exact zwl_r hS
  · refine zwl_b (wJ_X12_goesBy h0 h1 h2 hS) (fun r1 S9 e2 => ?_)
    refine zwl_i ?_ ?_
    · refine zwl_i ?_ ?_
      · exact (wJ_X12_holds_b63  e2)
      · exact (wJ_X12_holds_b62  e2)
    · exact (wJ_X12_holds_b62  e2)
set_option maxHeartbeats 40000 in
set_option maxRecDepth 100000 in
theorem wJ_X12_holds {T : zT} {k0 : Nat} {x1 : Int32} {x2 : Int32} {S S0 : zS} {a b : Nat} (h0 : ¬ (a = k0 ∧ b = 52)) (h1 : ¬ a = zr T k0 34) (h2 : ¬ a = zr T k0 35) (hS : S.2 a b = S0.2 a b) : zwl (fX12_holds T k0 x1 x2 S) (fun q0 => q0.2.2 a b = S0.2 a b) := by
  unfold fX12_holds
  refine zwl_i ?_ ?_
  · exact (wJ_X12_holds_b16  hS)
  · refine zwl_t (fun r2 => ?_)
    refine zwl_i ?_ ?_
    · exact (wJ_X12_holds_b16  hS)
    · refine zwl_sJf h0 hS (fun S5 e1 => ?_)
      refine zwl_b1 (zwl_lp (I := (fun q0 => q0.2.2.2 a b = S0.2 a b)) (Q := (fun q0 => q0.2.2 a b = S0.2 a b)) (fun a e4 => (wJ_X12_holds_l29 h0 h1 h2 e4)) e1) (fun e14 e2 => ?_)
      exact zwl_r e2
set_option maxHeartbeats 40000 in
set_option maxRecDepth 100000 in
theorem wJ_X12_surely_b122 {T : zT} {k0 : Nat} {x3 : Int32} {s0 : Int64} {s1 : Int64} {S S0 : zS} {a b : Nat}  (hS : S.2 a b = S0.2 a b) : zwl (fX12_surely_b122 T k0 x3 s0 s1 S) (Sum.elim (fun q1 => q1.2.2.2 a b = S0.2 a b) (fun q1 => q1.2.2 a b = S0.2 a b)) := by
  unfold fX12_surely_b122
  refine zwl_v (fun w17 => ?_)
  refine zwl_v (fun u18 => ?_)
  exact zwl_r hS
set_option maxHeartbeats 40000 in
set_option maxRecDepth 100000 in
theorem wJ_X12_surely_b121 {T : zT} {k0 : Nat} {x3 : Int32} {s0 : Int64} {S S0 : zS} {a b : Nat}  (hS : S.2 a b = S0.2 a b) : zwl (fX12_surely_b121 T k0 x3 s0 S) (Sum.elim (fun q1 => q1.2.2.2 a b = S0.2 a b) (fun q1 => q1.2.2 a b = S0.2 a b)) := by
  unfold fX12_surely_b121
  exact (wJ_X12_surely_b122  hS)
set_option maxHeartbeats 40000 in
set_option maxRecDepth 100000 in
theorem wJ_X12_surely_l17 {T : zT} {k0 : Nat} {l1 : Int64} {x3 : Int32} {S S0 : zS} {a b : Nat} (h0 : ¬ (a = k0 ∧ b = 52)) (h1 : ¬ a = zr T k0 34) (h2 : ¬ a = zr T k0 35) (hS : S.2 a b = S0.2 a b) : zwl (fX12_surely_l17 T k0 l1 x3 S) (Sum.elim (fun q1 => q1.2.2.2 a b = S0.2 a b) (fun q1 => q1.2.2 a b = S0.2 a b)) := by
  unfold fX12_surely_l17
  refine zwl_g ?_
  refine zwl_i ?_ ?_
  · exact zwl_r hS
  · refine zwl_t (fun e12 => ?_)
    refine zwl_b (wJ_X12_goesBy h0 h1 h2 hS) (fun r1 S15 e2 => ?_)
    refine zwl_i ?_ ?_
    · refine zwl_i ?_ ?_
      · exact (wJ_X12_surely_b122  e2)
      · exact (wJ_X12_surely_b121  e2)
    · exact (wJ_X12_surely_b121  e2)
set_option maxHeartbeats 40000 in
set_option maxRecDepth 100000 in
theorem wJ_X12_surely {T : zT} {k0 : Nat} {S S0 : zS} {a b : Nat} (h0 : ¬ (a = k0 ∧ b = 52)) (h1 : ¬ a = zr T k0 34) (h2 : ¬ a = zr T k0 35) (hS : S.2 a b = S0.2 a b) : zwl (fX12_surely T k0 S) (fun q0 => q0.2.2 a b = S0.2 a b) := by
  unfold fX12_surely
  refine zwl_g ?_
  refine zwl_i ?_ ?_
  · refine zwl_b1 (zwl_lp (I := (fun q0 => q0.2.2.2 a b = S0.2 a b)) (Q := (fun q0 => q0.2.2 a b = S0.2 a b)) (fun a e3 => (wJ_X12_surely_l17 h0 h1 h2 e3)) hS) (fun e22 e1 => ?_)
    exact zwl_r e1
  · exact zwl_r hS
set_option maxHeartbeats 40000 in
set_option maxRecDepth 100000 in
theorem wJ_X12_mostCoin_b23 {T : zT} {s0 : Int32} {S S0 : zS} {a b : Nat}  (hS : S.2 a b = S0.2 a b) : zwl (fX12_mostCoin_b23 T s0 S) (fun q0 => q0.2.2 a b = S0.2 a b) := by
  unfold fX12_mostCoin_b23
  exact zwl_r hS
set_option maxHeartbeats 40000 in
set_option maxRecDepth 100000 in
theorem wJ_X12_mostCoin {T : zT} {k0 : Nat} {S S0 : zS} {a b : Nat} (h0 : ¬ a = zr T k0 34) (h1 : ¬ a = zr T k0 35) (hS : S.2 a b = S0.2 a b) : zwl (fX12_mostCoin T k0 S) (fun q0 => q0.2.2 a b = S0.2 a b) := by
  unfold fX12_mostCoin
  refine zwl_b (wJ_X12_plans h0 h1 hS) (fun r1 S3 e2 => ?_)
  refine zwl_t (fun r4 => ?_)
  refine zwl_i ?_ ?_
  · exact (wJ_X12_mostCoin_b23  e2)
  · refine zwl_t (fun r7 => ?_)
    exact (wJ_X12_mostCoin_b23  e2)
set_option maxHeartbeats 40000 in
set_option maxRecDepth 100000 in
theorem wJ_X12_soon {T : zT} {k0 : Nat} {S S0 : zS} {a b : Nat} (h0 : ¬ a = zr T k0 34) (h1 : ¬ a = zr T k0 35) (hS : S.2 a b = S0.2 a b) : zwl (fX12_soon T k0 S) (fun q0 => q0.2.2 a b = S0.2 a b) := by
  unfold fX12_soon
  refine zwl_b (wJ_X12_asItIs  hS) (fun r1 S3 e2 => ?_)
  refine zwl_b (wJ_X12_plans h0 h1 e2) (fun r3 S6 e4 => ?_)
  refine zwl_t (fun e14 => ?_)
  refine zwl_mt (fun e14_0 => ?_) (fun e14_1 => ?_)
  · exact zwl_r e4
  · exact zwl_r e4
set_option maxHeartbeats 40000 in
set_option maxRecDepth 100000 in
theorem wJ_X12_follows_l6 {T : zT} {k0 : Nat} {x1 : Int32} {x2 : Int32} {x3 : Int32} {S S0 : zS} {a b : Nat}  (hS : S.2 a b = S0.2 a b) : zwl (fX12_follows_l6 T k0 x1 x2 x3 S) (Sum.elim (fun q1 => q1.2.2 a b = S0.2 a b) (fun q1 => q1.2 a b = S0.2 a b)) := by
  unfold fX12_follows_l6
  refine zwl_i ?_ ?_
  · exact zwl_r hS
  · refine zwl_g ?_
    refine zwl_sJn hS (fun S6 e1 => ?_)
    refine zwl_v (fun u7 => ?_)
    exact zwl_r e1
set_option maxHeartbeats 40000 in
set_option maxRecDepth 100000 in
theorem wJ_X12_follows_b140 {T : zT} {k0 : Nat} {x1 : Int32} {x2 : Int32} {x3 : Int32} {S S0 : zS} {a b : Nat}  (hS : S.2 a b = S0.2 a b) : zwl (fX12_follows_b140 T k0 x1 x2 x3 S) (Sum.elim (fun q1 => q1.2.2 a b = S0.2 a b) (fun q1 => q1.2 a b = S0.2 a b)) := by
  unfold fX12_follows_b140
  refine zwl_v (fun u15 => ?_)
  exact zwl_r hS
set_option maxHeartbeats 40000 in
set_option maxRecDepth 100000 in
theorem wJ_X12_follows_l67 {T : zT} {k0 : Nat} {x1 : Int32} {x2 : Int32} {x3 : Int32} {x4 : Int32} {x5 : Int32} {S S0 : zS} {a b : Nat} (h0 : ¬ a = zr T k0 34) (h1 : ¬ a = zr T k0 35) (hS : S.2 a b = S0.2 a b) : zwl (fX12_follows_l67 T k0 x1 x2 x3 x4 x5 S) (Sum.elim (fun q1 => q1.2.2 a b = S0.2 a b) (fun q1 => q1.2 a b = S0.2 a b)) := by
  unfold fX12_follows_l67
  refine zwl_i ?_ ?_
  · exact zwl_r hS
  · refine zwl_t (fun r23 => ?_)
    refine zwl_sJn hS (fun S25 e1 => ?_)
    refine zwl_g ?_
    refine zwl_sJn e1 (fun S27 e2 => ?_)
    refine zwl_g ?_
    refine zwl_sJn e2 (fun S29 e3 => ?_)
    refine zwl_b (wJ_X12_nextOf h0 h1 e3) (fun r30 S32 e4 => ?_)
    exact zwl_r e4
set_option maxHeartbeats 40000 in
set_option maxRecDepth 100000 in
theorem wJ_X12_follows_b136 {T : zT} {k0 : Nat} {x1 : Int32} {x2 : Int32} {x3 : Int32} {s0 : Int32} {s1 : Int32} {s2 : Nat} {S S0 : zS} {a b : Nat}  (hS : S.2 a b = S0.2 a b) : zwl (fX12_follows_b136 T k0 x1 x2 x3 s0 s1 s2 S) (Sum.elim (fun q1 => q1.2.2 a b = S0.2 a b) (fun q1 => q1.2 a b = S0.2 a b)) := by
  unfold fX12_follows_b136
  refine zwl_sJn hS (fun S38 e1 => ?_)
  exact (wJ_X12_follows_b140  e1)
set_option maxHeartbeats 40000 in
set_option maxRecDepth 100000 in
theorem wJ_X12_follows_l27 {T : zT} {k0 : Nat} {x1 : Int32} {x2 : Int32} {x3 : Int32} {S S0 : zS} {a b : Nat} (h0 : ¬ (a = k0 ∧ b = 52)) (h1 : ¬ a = zr T k0 34) (h2 : ¬ a = zr T k0 35) (hS : S.2 a b = S0.2 a b) : zwl (fX12_follows_l27 T k0 x1 x2 x3 S) (Sum.elim (fun q1 => q1.2.2 a b = S0.2 a b) (fun q1 => q1.2 a b = S0.2 a b)) := by
  unfold fX12_follows_l27
  refine zwl_g ?_
  refine zwl_i ?_ ?_
  · exact zwl_r hS
  · refine zwl_b (wJ_X12_works h0 hS) (fun r11 S13 e1 => ?_)
    refine zwl_i ?_ ?_
    · refine zwl_b (wJ_X12_loses  e1) (fun r2 S18 e3 => ?_)
      refine zwl_b (wJ_X12_nextOf h1 h2 e3) (fun r19 S21 e4 => ?_)
      refine zwl_b1 (zwl_lp (I := (fun q0 => q0.2.2 a b = S0.2 a b)) (Q := (fun q0 => q0.2 a b = S0.2 a b)) (fun a e7 => (wJ_X12_follows_l67 h1 h2 e7)) e4) (fun e33 e5 => ?_)
      refine zwl_b (wJ_X12_ends h1 h2 e5) (fun r34 S36 e8 => ?_)
      refine zwl_i ?_ ?_
      · exact (wJ_X12_follows_b136  e8)
      · exact (wJ_X12_follows_b136  e8)
    · exact (wJ_X12_follows_b140  e1)
set_option maxHeartbeats 40000 in
set_option maxRecDepth 100000 in
theorem wJ_X12_follows {T : zT} {k0 : Nat} {x1 : Int32} {x2 : Int32} {S S0 : zS} {a b : Nat} (h0 : ¬ (a = k0 ∧ b = 52)) (h1 : ¬ a = zr T k0 34) (h2 : ¬ a = zr T k0 35) (hS : S.2 a b = S0.2 a b) : zwl (fX12_follows T k0 x1 x2 S) (fun q0 => q0.2.2 a b = S0.2 a b) := by
  unfold fX12_follows
  refine zwl_b (wJ_X12_begins  hS) (fun r1 S3 e2 => ?_)
  refine zwl_b1 (zwl_lp (I := (fun q0 => q0.2.2 a b = S0.2 a b)) (Q := (fun q0 => q0.2 a b = S0.2 a b)) (fun a e5 => (wJ_X12_follows_l6  e5)) e2) (fun e8 e3 => ?_)
  refine zwl_b1 (zwl_lp (I := (fun q0 => q0.2.2 a b = S0.2 a b)) (Q := (fun q0 => q0.2 a b = S0.2 a b)) (fun a e8 => (wJ_X12_follows_l27 h0 h1 h2 e8)) e3) (fun e41 e6 => ?_)
  exact zwl_r e6
set_option maxHeartbeats 40000 in
set_option maxRecDepth 100000 in
theorem wJ_X10_split_b47 {T : zT} {k0 : Nat} {k1 : Nat} {n1 : Nat} {x2 : Int32} {x3 : Int32} {x4 : Int32} {S S0 : zS} {a b : Nat}  (hS : S.2 a b = S0.2 a b) : zwl (fX10_split_b47 T k0 k1 n1 x2 x3 x4 S) (Sum.elim (fun q1 => q1.2.2.2 a b = S0.2 a b) (fun q1 => q1.2 a b = S0.2 a b)) := by
  unfold fX10_split_b47
  refine zwl_v (fun u5 => ?_)
  exact zwl_r hS
set_option maxHeartbeats 40000 in
set_option maxRecDepth 100000 in
theorem wJ_X10_split_l10 {T : zT} {k0 : Nat} {k1 : Nat} {n1 : Nat} {x2 : Int32} {x3 : Int32} {x4 : Int32} {S S0 : zS} {a b : Nat}  (hS : S.2 a b = S0.2 a b) : zwl (fX10_split_l10 T k0 k1 n1 x2 x3 x4 S) (Sum.elim (fun q1 => q1.2.2.2 a b = S0.2 a b) (fun q1 => q1.2 a b = S0.2 a b)) := by
  unfold fX10_split_l10
  refine zwl_i ?_ ?_
  · exact zwl_r hS
  · refine zwl_i ?_ ?_
    · exact zwl_r hS
    · refine zwl_i ?_ ?_
      · exact (wJ_X10_split_b47  hS)
      · refine zwl_g ?_
        refine zwl_i ?_ ?_
        · exact (wJ_X10_split_b47  hS)
        · refine zwl_b (wJ_X10_splitOne  hS) (fun r8 S10 e1 => ?_)
          exact (wJ_X10_split_b47  e1)
set_option maxHeartbeats 40000 in
set_option maxRecDepth 100000 in
theorem wJ_X10_split_b53 {T : zT} {k0 : Nat} {x2 : Int32} {S S0 : zS} {a b : Nat}  (hS : S.2 a b = S0.2 a b) : zwl (fX10_split_b53 T k0 x2 S) (fun q0 => q0.2.2 a b = S0.2 a b) := by
  unfold fX10_split_b53
  refine zwl_b (wJ_X10_add  hS) (fun r1 S14 e2 => ?_)
  exact zwl_r e2
set_option maxHeartbeats 40000 in
set_option maxRecDepth 100000 in
theorem wJ_X10_split {T : zT} {k0 : Nat} {k1 : Nat} {n1 : Nat} {x2 : Int32} {S S0 : zS} {a b : Nat}  (hS : S.2 a b = S0.2 a b) : zwl (fX10_split T k0 k1 n1 x2 S) (fun q0 => q0.2.2 a b = S0.2 a b) := by
  unfold fX10_split
  refine zwl_sJn hS (fun S1 e1 => ?_)
  refine zwl_b1 (zwl_lp (I := (fun q0 => q0.2.2.2 a b = S0.2 a b)) (Q := (fun q0 => q0.2 a b = S0.2 a b)) (fun a e4 => (wJ_X10_split_l10  e4)) e1) (fun e11 e2 => ?_)
  exact (wJ_X10_split_b53  e2)
set_option maxHeartbeats 40000 in
set_option maxRecDepth 100000 in
theorem wJ_X11_soon {T : zT} {k0 : Nat} {S S0 : zS} {a b : Nat} (h0 : ¬ a = zr T (zr T (zr T k0 13) 1) 0) (h1 : ¬ a = zr T (zr T (zr T k0 13) 1) 1) (hS : S.2 a b = S0.2 a b) : zwl (fX11_soon T k0 S) (fun q0 => q0.2.2 a b = S0.2 a b) := by
  unfold fX11_soon
  refine zwl_b (wJ_X11_readyPlans h0 h1 hS) (fun r1 S3 e1 => ?_)
  refine zwl_t (fun r4 => ?_)
  exact zwl_r e1
set_option maxHeartbeats 40000 in
set_option maxRecDepth 100000 in
theorem wJ_X11_best_b44 {T : zT} {S S0 : zS} {a b : Nat}  (hS : S.2 a b = S0.2 a b) : zwl (fX11_best_b44 T S) (fun q0 => q0.2.2 a b = S0.2 a b) := by
  unfold fX11_best_b44
  exact zwl_r hS
set_option maxHeartbeats 40000 in
set_option maxRecDepth 100000 in
theorem wJ_X11_best {T : zT} {k0 : Nat} {x1 : Int32} {S S0 : zS} {a b : Nat} (h0 : ¬ a = zr T (zr T (zr T k0 13) 1) 0) (h1 : ¬ a = zr T (zr T (zr T k0 13) 1) 1) (hS : S.2 a b = S0.2 a b) : zwl (fX11_best T k0 x1 S) (fun q0 => q0.2.2 a b = S0.2 a b) := by
  unfold fX11_best
  refine zwl_b (wJ_X11_readyPlans h0 h1 hS) (fun r1 S3 e1 => ?_)
  refine zwl_i ?_ ?_
  · exact zwl_r e1
  · refine zwl_i ?_ ?_
    · exact zwl_r e1
    · refine zwl_i ?_ ?_
      · exact (wJ_X11_best_b44  e1)
      · refine zwl_i ?_ ?_
        · refine zwl_i ?_ ?_
          · refine zwl_i ?_ ?_
            · exact zwl_r e1
            · refine zwl_i ?_ ?_
              · exact zwl_r e1
              · refine zwl_i ?_ ?_
                · refine zwl_t (fun r12 => ?_)
                  exact zwl_r e1
                · exact zwl_r e1
          · exact zwl_r e1
        · exact (wJ_X11_best_b44  e1)
set_option maxHeartbeats 40000 in
set_option maxRecDepth 100000 in
theorem wJ_X11_fetched_b37 {T : zT} {s0 : Int32} {S S0 : zS} {a b : Nat}  (hS : S.2 a b = S0.2 a b) : zwl (fX11_fetched_b37 T s0 S) (fun q0 => q0.2.2 a b = S0.2 a b) := by
  unfold fX11_fetched_b37
  exact zwl_r hS
set_option maxHeartbeats 40000 in
set_option maxRecDepth 100000 in
theorem wJ_X11_fetched {T : zT} {k0 : Nat} {x1 : Int32} {S S0 : zS} {a b : Nat} (h0 : ¬ a = zr T (zr T (zr T k0 13) 1) 0) (h1 : ¬ a = zr T (zr T (zr T k0 13) 1) 1) (hS : S.2 a b = S0.2 a b) : zwl (fX11_fetched T k0 x1 S) (fun q0 => q0.2.2 a b = S0.2 a b) := by
  unfold fX11_fetched
  refine zwl_t (fun r1 => ?_)
  refine zwl_i ?_ ?_
  · exact zwl_r hS
  · refine zwl_b (wJ_X11_readyPlans h0 h1 hS) (fun r4 S6 e1 => ?_)
    refine zwl_i ?_ ?_
    · refine zwl_g ?_
      exact (wJ_X11_fetched_b37  e1)
    · exact (wJ_X11_fetched_b37  e1)
set_option maxHeartbeats 40000 in
set_option maxRecDepth 100000 in
theorem wJ_X11_hangs_b35 {T : zT} {s0 : Int32} {S S0 : zS} {a b : Nat}  (hS : S.2 a b = S0.2 a b) : zwl (fX11_hangs_b35 T s0 S) (fun q0 => q0.2.2 a b = S0.2 a b) := by
  unfold fX11_hangs_b35
  exact zwl_r hS
set_option maxHeartbeats 40000 in
set_option maxRecDepth 100000 in
theorem wJ_X11_key_b31 {T : zT} {s0 : Int32} {S S0 : zS} {a b : Nat}  (hS : S.2 a b = S0.2 a b) : zwl (fX11_key_b31 T s0 S) (fun q0 => q0.2.2 a b = S0.2 a b) := by
  unfold fX11_key_b31
  exact zwl_r hS
set_option maxHeartbeats 40000 in
set_option maxRecDepth 100000 in
theorem wJ_X11_key_b22 {T : zT} {S S0 : zS} {a b : Nat}  (hS : S.2 a b = S0.2 a b) : zwl (fX11_key_b22 T S) (fun q0 => q0.2.2 a b = S0.2 a b) := by
  unfold fX11_key_b22
  exact (wJ_X11_key_b31  hS)
set_option maxHeartbeats 40000 in
set_option maxRecDepth 100000 in
theorem wJ_X11_wise_b49 {T : zT} {s0 : Int32} {S S0 : zS} {a b : Nat}  (hS : S.2 a b = S0.2 a b) : zwl (fX11_wise_b49 T s0 S) (fun q0 => q0.2.2 a b = S0.2 a b) := by
  unfold fX11_wise_b49
  exact zwl_r hS
set_option maxHeartbeats 40000 in
set_option maxRecDepth 100000 in
theorem wJ_X11_wise_b37 {T : zT} {S S0 : zS} {a b : Nat}  (hS : S.2 a b = S0.2 a b) : zwl (fX11_wise_b37 T S) (fun q0 => q0.2.2 a b = S0.2 a b) := by
  unfold fX11_wise_b37
  exact (wJ_X11_wise_b49  hS)
set_option maxHeartbeats 40000 in
set_option maxRecDepth 100000 in
theorem wJ_X11_borrowed_b15 {T : zT} {S S0 : zS} {a b : Nat}  (hS : S.2 a b = S0.2 a b) : zwl (fX11_borrowed_b15 T S) (fun q0 => q0.2.2 a b = S0.2 a b) := by
  unfold fX11_borrowed_b15
  exact zwl_r hS
set_option maxHeartbeats 40000 in
set_option maxRecDepth 100000 in
theorem wJ_X11_sold_b26 {T : zT} {S S0 : zS} {a b : Nat}  (hS : S.2 a b = S0.2 a b) : zwl (fX11_sold_b26 T S) (fun q0 => q0.2.2 a b = S0.2 a b) := by
  unfold fX11_sold_b26
  exact zwl_r hS
set_option maxHeartbeats 40000 in
set_option maxRecDepth 100000 in
theorem wJ_X11_ruled_b17 {T : zT} {S S0 : zS} {a b : Nat}  (hS : S.2 a b = S0.2 a b) : zwl (fX11_ruled_b17 T S) (fun q0 => q0.2.2 a b = S0.2 a b) := by
  unfold fX11_ruled_b17
  exact zwl_r hS
set_option maxHeartbeats 40000 in
set_option maxRecDepth 100000 in
theorem wJ_X11_ruled_b126 {T : zT} {s0 : Int32} {S S0 : zS} {a b : Nat}  (hS : S.2 a b = S0.2 a b) : zwl (fX11_ruled_b126 T s0 S) (fun q0 => q0.2.2 a b = S0.2 a b) := by
  unfold fX11_ruled_b126
  exact zwl_r hS
set_option maxHeartbeats 40000 in
set_option maxRecDepth 100000 in
theorem wJ_X11_ruled_b111 {T : zT} {S S0 : zS} {a b : Nat}  (hS : S.2 a b = S0.2 a b) : zwl (fX11_ruled_b111 T S) (fun q0 => q0.2.2 a b = S0.2 a b) := by
  unfold fX11_ruled_b111
  exact (wJ_X11_ruled_b126  hS)
set_option maxHeartbeats 40000 in
set_option maxRecDepth 100000 in
theorem wJ_X11_ruled {T : zT} {k0 : Nat} {x1 : Int32} {x2 : Int32} {S S0 : zS} {a b : Nat} (h0 : ¬ a = zr T (zr T (zr T k0 12) 2) 0) (h1 : ¬ a = zr T (zr T (zr T k0 12) 2) 1) (h2 : ¬ a = zr T (zr T (zr T k0 12) 1) 0) (h3 : ¬ a = zr T (zr T (zr T k0 12) 1) 1) (h4 : ¬ a = zr T (zr T (zr T k0 13) 1) 0) (h5 : ¬ a = zr T (zr T (zr T k0 13) 1) 1) (hS : S.2 a b = S0.2 a b) : zwl (fX11_ruled T k0 x1 x2 S) (fun q0 => q0.2.2 a b = S0.2 a b) := by
  unfold fX11_ruled
  refine zwl_t (fun r1 => ?_)
  refine zwl_i ?_ ?_
  · exact (wJ_X11_ruled_b17  hS)
  · refine zwl_i ?_ ?_
    · exact (wJ_X11_ruled_b17  hS)
    · refine zwl_i ?_ ?_
      · refine zwl_g ?_
        refine zwl_b (wJ_X4_liveByRule h0 h1 h2 h3 hS) (fun r1 S9 e2 => ?_)
        refine zwl_i ?_ ?_
        · exact zwl_r e2
        · refine zwl_i ?_ ?_
          · exact zwl_r e2
          · refine zwl_i ?_ ?_
            · exact zwl_r e2
            · refine zwl_b (wJ_X11_readyPlans h4 h5 e2) (fun r13 S15 e3 => ?_)
              refine zwl_v (fun u16 => ?_)
              refine zwl_i ?_ ?_
              · refine zwl_i ?_ ?_
                · exact (wJ_X11_ruled_b126  e3)
                · exact (wJ_X11_ruled_b111  e3)
              · exact (wJ_X11_ruled_b111  e3)
      · exact (wJ_X11_ruled_b17  hS)
set_option maxHeartbeats 40000 in
set_option maxRecDepth 100000 in
theorem wJ_X11_finest_b69 {T : zT} {k0 : Nat} {x1 : Int32} {x2 : Int32} {x3 : Int32} {S S0 : zS} {a b : Nat}  (hS : S.2 a b = S0.2 a b) : zwl (fX11_finest_b69 T k0 x1 x2 x3 S) (Sum.elim (fun q1 => q1.2.2.2.2 a b = S0.2 a b) (fun q1 => q1.2.2 a b = S0.2 a b)) := by
  unfold fX11_finest_b69
  refine zwl_v (fun u8 => ?_)
  exact zwl_r hS
set_option maxHeartbeats 40000 in
set_option maxRecDepth 100000 in
theorem wJ_X11_finest_l7 {T : zT} {k0 : Nat} {x1 : Int32} {x2 : Int32} {x3 : Int32} {S S0 : zS} {a b : Nat} (h0 : ¬ a = zr T (zr T (zr T k0 12) 2) 0) (h1 : ¬ a = zr T (zr T (zr T k0 12) 2) 1) (h2 : ¬ a = zr T (zr T (zr T k0 12) 1) 0) (h3 : ¬ a = zr T (zr T (zr T k0 12) 1) 1) (hS : S.2 a b = S0.2 a b) : zwl (fX11_finest_l7 T k0 x1 x2 x3 S) (Sum.elim (fun q1 => q1.2.2.2.2 a b = S0.2 a b) (fun q1 => q1.2.2 a b = S0.2 a b)) := by
  unfold fX11_finest_l7
  refine zwl_i ?_ ?_
  · exact zwl_r hS
  · refine zwl_i ?_ ?_
    · exact zwl_r hS
    · refine zwl_g ?_
      refine zwl_b (wJ_X4_liveByRule h0 h1 h2 h3 hS) (fun r1 S6 e2 => ?_)
      refine zwl_i ?_ ?_
      · refine zwl_i ?_ ?_
        · exact (wJ_X11_finest_b69  e2)
        · refine zwl_v (fun u10 => ?_)
          exact (wJ_X11_finest_b69  e2)
      · exact (wJ_X11_finest_b69  e2)
set_option maxHeartbeats 40000 in
set_option maxRecDepth 100000 in
theorem wJ_X11_finest_b75 {T : zT} {x1 : Int32} {S S0 : zS} {a b : Nat}  (hS : S.2 a b = S0.2 a b) : zwl (fX11_finest_b75 T x1 S) (fun q0 => q0.2.2 a b = S0.2 a b) := by
  unfold fX11_finest_b75
  exact zwl_r hS
set_option maxHeartbeats 40000 in
set_option maxRecDepth 100000 in
theorem wJ_X11_finest {T : zT} {k0 : Nat} {S S0 : zS} {a b : Nat} (h0 : ¬ a = zr T (zr T (zr T k0 12) 2) 0) (h1 : ¬ a = zr T (zr T (zr T k0 12) 2) 1) (h2 : ¬ a = zr T (zr T (zr T k0 12) 1) 0) (h3 : ¬ a = zr T (zr T (zr T k0 12) 1) 1) (hS : S.2 a b = S0.2 a b) : zwl (fX11_finest T k0 S) (fun q0 => q0.2.2 a b = S0.2 a b) := by
  unfold fX11_finest
  refine zwl_b1 (zwl_lp (I := (fun q0 => q0.2.2.2.2 a b = S0.2 a b)) (Q := (fun q0 => q0.2.2 a b = S0.2 a b)) (fun a e3 => (wJ_X11_finest_l7 h0 h1 h2 h3 e3)) hS) (fun e11 e1 => ?_)
  exact (wJ_X11_finest_b75  e1)
set_option maxHeartbeats 40000 in
set_option maxRecDepth 100000 in
theorem wJ_X11_parts_b21 {T : zT} {S S0 : zS} {a b : Nat}  (hS : S.2 a b = S0.2 a b) : zwl (fX11_parts_b21 T S) (fun q0 => q0.2.2 a b = S0.2 a b) := by
  unfold fX11_parts_b21
  exact zwl_r hS
set_option maxHeartbeats 40000 in
set_option maxRecDepth 100000 in
theorem wJ_X11_parts {T : zT} {k0 : Nat} {x1 : Int32} {x2 : Int32} {S S0 : zS} {a b : Nat} (h0 : ¬ a = zr T (zr T (zr T k0 12) 2) 0) (h1 : ¬ a = zr T (zr T (zr T k0 12) 2) 1) (h2 : ¬ a = zr T (zr T (zr T k0 12) 1) 0) (h3 : ¬ a = zr T (zr T (zr T k0 12) 1) 1) (hS : S.2 a b = S0.2 a b) : zwl (fX11_parts T k0 x1 x2 S) (fun q0 => q0.2.2 a b = S0.2 a b) := by
  unfold fX11_parts
  refine zwl_t (fun r1 => ?_)
  refine zwl_i ?_ ?_
  · exact (wJ_X11_parts_b21  hS)
  · refine zwl_t (fun r4 => ?_)
    refine zwl_i ?_ ?_
    · exact (wJ_X11_parts_b21  hS)
    · refine zwl_i ?_ ?_
      · exact (wJ_X11_parts_b21  hS)
      · refine zwl_g ?_
        refine zwl_b (wJ_X4_liveByRule h0 h1 h2 h3 hS) (fun r1 S11 e2 => ?_)
        refine zwl_g ?_
        refine zwl_sJnC e2 (fun S13 e3 => ?_)
        refine zwl_g ?_
        refine zwl_b (wJ_X4_liveByRule h0 h1 h2 h3 e3) (fun r4 S17 e5 => ?_)
        refine zwl_t (fun e24 => ?_)
        exact zwl_r e5
set_option maxHeartbeats 40000 in
set_option maxRecDepth 100000 in
theorem wJ_X11_goes_b16 {T : zT} {S S0 : zS} {a b : Nat}  (hS : S.2 a b = S0.2 a b) : zwl (fX11_goes_b16 T S) (fun q0 => q0.2.2 a b = S0.2 a b) := by
  unfold fX11_goes_b16
  exact zwl_r hS
set_option maxHeartbeats 40000 in
set_option maxRecDepth 100000 in
theorem wJ_X11_goes_b103 {T : zT} {k0 : Nat} {x1 : Int32} {x3 : Int32} {x4 : Int32} {x5 : Int32} {S S0 : zS} {a b : Nat}  (hS : S.2 a b = S0.2 a b) : zwl (fX11_goes_b103 T k0 x1 x3 x4 x5 S) (Sum.elim (fun q1 => q1.2.2.2 a b = S0.2 a b) (fun q1 => q1.2.2 a b = S0.2 a b)) := by
  unfold fX11_goes_b103
  refine zwl_v (fun u19 => ?_)
  exact zwl_r hS
set_option maxHeartbeats 40000 in
set_option maxRecDepth 100000 in
theorem wJ_X11_goes_l33 {T : zT} {k0 : Nat} {x1 : Int32} {x3 : Int32} {x4 : Int32} {x5 : Int32} {S S0 : zS} {a b : Nat} (h0 : ¬ (a = zr T k0 14 ∧ b = 0)) (h1 : ¬ a = zr T (zr T (zr T k0 12) 2) 0) (h2 : ¬ a = zr T (zr T (zr T k0 12) 2) 1) (h3 : ¬ a = zr T (zr T (zr T k0 12) 1) 0) (h4 : ¬ a = zr T (zr T (zr T k0 12) 1) 1) (hS : S.2 a b = S0.2 a b) : zwl (fX11_goes_l33 T k0 x1 x3 x4 x5 S) (Sum.elim (fun q1 => q1.2.2.2 a b = S0.2 a b) (fun q1 => q1.2.2 a b = S0.2 a b)) := by
  unfold fX11_goes_l33
  refine zwl_i ?_ ?_
  · exact zwl_r hS
  · refine zwl_g ?_
    refine zwl_b (wJ_X3_work h0 hS) (fun r10 S12 e1 => ?_)
    refine zwl_b (wJ_X4_liveByRule h1 h2 h3 h4 e1) (fun r2 S15 e3 => ?_)
    refine zwl_t (fun r16 => ?_)
    refine zwl_i ?_ ?_
    · exact (wJ_X11_goes_b103  e3)
    · refine zwl_i ?_ ?_
      · refine zwl_v (fun u21 => ?_)
        exact (wJ_X11_goes_b103  e3)
      · exact (wJ_X11_goes_b103  e3)
set_option maxHeartbeats 40000 in
set_option maxRecDepth 100000 in
theorem wJ_X11_goes {T : zT} {k0 : Nat} {x1 : Int32} {x2 : Int32} {x3 : Int32} {S S0 : zS} {a b : Nat} (h0 : ¬ (a = zr T k0 14 ∧ b = 0)) (h1 : ¬ a = zr T (zr T (zr T k0 12) 2) 0) (h2 : ¬ a = zr T (zr T (zr T k0 12) 2) 1) (h3 : ¬ a = zr T (zr T (zr T k0 12) 1) 0) (h4 : ¬ a = zr T (zr T (zr T k0 12) 1) 1) (hS : S.2 a b = S0.2 a b) : zwl (fX11_goes T k0 x1 x2 x3 S) (fun q0 => q0.2.2 a b = S0.2 a b) := by
  unfold fX11_goes
  refine zwl_t (fun r1 => ?_)
  refine zwl_i ?_ ?_
  · exact (wJ_X11_goes_b16  hS)
  · refine zwl_t (fun r4 => ?_)
    refine zwl_i ?_ ?_
    · exact (wJ_X11_goes_b16  hS)
    · refine zwl_sJf h0 hS (fun S7 e1 => ?_)
      refine zwl_b1 (zwl_lp (I := (fun q0 => q0.2.2.2 a b = S0.2 a b)) (Q := (fun q0 => q0.2.2 a b = S0.2 a b)) (fun a e4 => (wJ_X11_goes_l33 h0 h1 h2 h3 h4 e4)) e1) (fun e22 e2 => ?_)
      exact zwl_r e2
set_option maxHeartbeats 40000 in
set_option maxRecDepth 100000 in
theorem wJ_X12_sum_b43 {T : zT} {k0 : Nat} {s0 : Int32} {S S0 : zS} {a b : Nat}  (hS : S.2 a b = S0.2 a b) : zwl (fX12_sum_b43 T k0 s0 S) (Sum.elim (fun q1 => q1.2 a b = S0.2 a b) (fun q1 => q1.2 a b = S0.2 a b)) := by
  unfold fX12_sum_b43
  refine zwl_sJn hS (fun S11 e1 => ?_)
  refine zwl_b (wJ_X12_term  e1) (fun r2 S14 e3 => ?_)
  refine zwl_b (wJ_X12_entry  e3) (fun r4 S17 e5 => ?_)
  exact zwl_r e5
set_option maxHeartbeats 40000 in
set_option maxRecDepth 100000 in
theorem wJ_X12_sum_b29 {T : zT} {k0 : Nat} {S S0 : zS} {a b : Nat}  (hS : S.2 a b = S0.2 a b) : zwl (fX12_sum_b29 T k0 S) (Sum.elim (fun q1 => q1.2 a b = S0.2 a b) (fun q1 => q1.2 a b = S0.2 a b)) := by
  unfold fX12_sum_b29
  refine zwl_t (fun r8 => ?_)
  refine zwl_i ?_ ?_
  · exact (wJ_X12_sum_b43  hS)
  · exact (wJ_X12_sum_b43  hS)
set_option maxHeartbeats 40000 in
set_option maxRecDepth 100000 in
theorem wJ_X12_sum_l4 {T : zT} {k0 : Nat} {S S0 : zS} {a b : Nat}  (hS : S.2 a b = S0.2 a b) : zwl (fX12_sum_l4 T k0 S) (Sum.elim (fun q1 => q1.2 a b = S0.2 a b) (fun q1 => q1.2 a b = S0.2 a b)) := by
  unfold fX12_sum_l4
  refine zwl_i ?_ ?_
  · refine zwl_t (fun r5 => ?_)
    refine zwl_i ?_ ?_
    · exact (wJ_X12_sum_b29  hS)
    · refine zwl_t (fun r18 => ?_)
      refine zwl_i ?_ ?_
      · exact (wJ_X12_sum_b29  hS)
      · exact zwl_r hS
  · exact zwl_r hS
set_option maxHeartbeats 40000 in
set_option maxRecDepth 100000 in
theorem wJ_X12_sum_b67 {T : zT} {S S0 : zS} {a b : Nat}  (hS : S.2 a b = S0.2 a b) : zwl (fX12_sum_b67 T S) (fun q0 => q0.2.2 a b = S0.2 a b) := by
  unfold fX12_sum_b67
  exact zwl_r hS
set_option maxHeartbeats 40000 in
set_option maxRecDepth 100000 in
theorem wJ_X12_sum {T : zT} {k0 : Nat} {S S0 : zS} {a b : Nat}  (hS : S.2 a b = S0.2 a b) : zwl (fX12_sum T k0 S) (fun q0 => q0.2.2 a b = S0.2 a b) := by
  unfold fX12_sum
  refine zwl_b (wJ_X12_term  hS) (fun r1 S3 e2 => ?_)
  refine zwl_b1 (zwl_lp (I := (fun q0 => q0.2 a b = S0.2 a b)) (Q := (fun q0 => q0.2 a b = S0.2 a b)) (fun a e5 => (wJ_X12_sum_l4  e5)) e2) (fun e21 e3 => ?_)
  exact (wJ_X12_sum_b67  e3)
set_option maxHeartbeats 40000 in
set_option maxRecDepth 100000 in
theorem wJ_X12_best_b45 {T : zT} {s0 : Int32} {s1 : Nat} {S S0 : zS} {a b : Nat}  (hS : S.2 a b = S0.2 a b) : zwl (fX12_best_b45 T s0 s1 S) (fun q0 => q0.2.2 a b = S0.2 a b) := by
  unfold fX12_best_b45
  refine zwl_t (fun r12 => ?_)
  exact zwl_r hS
set_option maxHeartbeats 40000 in
set_option maxRecDepth 100000 in
theorem wJ_X12_best_b34 {T : zT} {k0 : Nat} {x1 : Int32} {S S0 : zS} {a b : Nat}  (hS : S.2 a b = S0.2 a b) : zwl (fX12_best_b34 T k0 x1 S) (fun q0 => q0.2.2 a b = S0.2 a b) := by
  unfold fX12_best_b34
  refine zwl_i ?_ ?_
  · exact (wJ_X12_best_b45  hS)
  · exact (wJ_X12_best_b45  hS)
set_option maxHeartbeats 40000 in
set_option maxRecDepth 100000 in
theorem wJ_X12_best_b100 {T : zT} {s0 : Int32} {S S0 : zS} {a b : Nat}  (hS : S.2 a b = S0.2 a b) : zwl (fX12_best_b100 T s0 S) (fun q0 => q0.2.2 a b = S0.2 a b) := by
  unfold fX12_best_b100
  exact zwl_r hS
set_option maxHeartbeats 40000 in
set_option maxRecDepth 100000 in
theorem wJ_X12_best {T : zT} {k0 : Nat} {x1 : Int32} {S S0 : zS} {a b : Nat} (h0 : ¬ a = zr T k0 34) (h1 : ¬ a = zr T k0 35) (hS : S.2 a b = S0.2 a b) : zwl (fX12_best T k0 x1 S) (fun q0 => q0.2.2 a b = S0.2 a b) := by
  unfold fX12_best
  refine zwl_t (fun r1 => ?_)
  refine zwl_i ?_ ?_
  · exact zwl_r hS
  · refine zwl_b (wJ_X12_asItIs  hS) (fun r1 S6 e2 => ?_)
    refine zwl_b (wJ_X12_mostCoin h0 h1 e2) (fun r7 S9 e3 => ?_)
    refine zwl_i ?_ ?_
    · exact (wJ_X12_best_b34  e3)
    · refine zwl_i ?_ ?_
      · exact (wJ_X12_best_b34  e3)
      · refine zwl_i ?_ ?_
        · exact zwl_r e3
        · refine zwl_i ?_ ?_
          · exact (wJ_X12_best_b100  e3)
          · refine zwl_i ?_ ?_
            · refine zwl_t (fun r25 => ?_)
              exact (wJ_X12_best_b100  e3)
            · refine zwl_i ?_ ?_
              · refine zwl_t (fun r23 => ?_)
                exact (wJ_X12_best_b100  e3)
              · refine zwl_t (fun r19 => ?_)
                refine zwl_t (fun r21 => ?_)
                exact (wJ_X12_best_b100  e3)
set_option maxHeartbeats 40000 in
set_option maxRecDepth 100000 in
theorem wJ_X12_fetched {T : zT} {k0 : Nat} {x1 : Int32} {S S0 : zS} {a b : Nat} (h0 : ¬ a = zr T k0 34) (h1 : ¬ a = zr T k0 35) (hS : S.2 a b = S0.2 a b) : zwl (fX12_fetched T k0 x1 S) (fun q0 => q0.2.2 a b = S0.2 a b) := by
  unfold fX12_fetched
  refine zwl_t (fun r1 => ?_)
  refine zwl_i ?_ ?_
  · exact zwl_r hS
  · refine zwl_b (wJ_X12_asItIs  hS) (fun r1 S6 e2 => ?_)
    refine zwl_b (wJ_X12_mostCoin h0 h1 e2) (fun r7 S9 e3 => ?_)
    refine zwl_i ?_ ?_
    · exact zwl_r e3
    · refine zwl_b (wJ_X12_goesBack h0 h1 e3) (fun r4 S13 e5 => ?_)
      refine zwl_t (fun e19 => ?_)
      refine zwl_mt (fun e19_0 => ?_) (fun e19_1 => ?_)
      · exact zwl_r e5
      · exact zwl_r e5
set_option maxHeartbeats 40000 in
set_option maxRecDepth 100000 in
theorem wJ_X12_without {T : zT} {k0 : Nat} {x1 : Int32} {S S0 : zS} {a b : Nat} (h0 : ¬ a = zr T k0 34) (h1 : ¬ a = zr T k0 35) (hS : S.2 a b = S0.2 a b) : zwl (fX12_without T k0 x1 S) (fun q0 => q0.2.2 a b = S0.2 a b) := by
  unfold fX12_without
  refine zwl_b (wJ_X12_asItIs  hS) (fun r1 S3 e2 => ?_)
  refine zwl_sJn e2 (fun S4 e3 => ?_)
  refine zwl_b (wJ_X12_mostCoin h0 h1 e3) (fun r5 S7 e4 => ?_)
  exact zwl_r e4
set_option maxHeartbeats 40000 in
set_option maxRecDepth 100000 in
theorem wJ_X12_asBest {T : zT} {k0 : Nat} {S S0 : zS} {a b : Nat} (h0 : ¬ a = zr T k0 34) (h1 : ¬ a = zr T k0 35) (hS : S.2 a b = S0.2 a b) : zwl (fX12_asBest T k0 S) (fun q0 => q0.2.2 a b = S0.2 a b) := by
  unfold fX12_asBest
  refine zwl_b (wJ_X12_asItIs  hS) (fun r1 S3 e2 => ?_)
  refine zwl_b (wJ_X12_mostCoin h0 h1 e2) (fun r4 S6 e3 => ?_)
  exact zwl_r e3
set_option maxHeartbeats 40000 in
set_option maxRecDepth 100000 in
theorem wJ_X12_borrowedIn_b39 {T : zT} {S S0 : zS} {a b : Nat}  (hS : S.2 a b = S0.2 a b) : zwl (fX12_borrowedIn_b39 T S) (fun q0 => q0.2.2 a b = S0.2 a b) := by
  unfold fX12_borrowedIn_b39
  exact zwl_r hS
set_option maxHeartbeats 40000 in
set_option maxRecDepth 100000 in
theorem wJ_X12_borrowedIn_b63 {T : zT} {s0 : Int32} {S S0 : zS} {a b : Nat}  (hS : S.2 a b = S0.2 a b) : zwl (fX12_borrowedIn_b63 T s0 S) (fun q0 => q0.2.2 a b = S0.2 a b) := by
  unfold fX12_borrowedIn_b63
  exact zwl_r hS
set_option maxHeartbeats 40000 in
set_option maxRecDepth 100000 in
theorem wJ_X12_borrowedIn {T : zT} {k0 : Nat} {x1 : Int32} {S S0 : zS} {a b : Nat} (h0 : ¬ a = zr T k0 34) (h1 : ¬ a = zr T k0 35) (hS : S.2 a b = S0.2 a b) : zwl (fX12_borrowedIn T k0 x1 S) (fun q0 => q0.2.2 a b = S0.2 a b) := by
  unfold fX12_borrowedIn
  refine zwl_b (wJ_X12_asItIs  hS) (fun r1 S3 e2 => ?_)
  refine zwl_g ?_
  refine zwl_i ?_ ?_
  · exact (wJ_X12_borrowedIn_b39  e2)
  · refine zwl_g ?_
    refine zwl_g ?_
    refine zwl_i ?_ ?_
    · exact (wJ_X12_borrowedIn_b39  e2)
    · refine zwl_g ?_
      refine zwl_i ?_ ?_
      · refine zwl_sJn e2 (fun S11 e3 => ?_)
        refine zwl_b (wJ_X12_mostCoin h0 h1 e3) (fun r12 S14 e4 => ?_)
        refine zwl_i ?_ ?_
        · exact (wJ_X12_borrowedIn_b63  e4)
        · exact (wJ_X12_borrowedIn_b63  e4)
      · exact (wJ_X12_borrowedIn_b39  e2)
set_option maxHeartbeats 40000 in
set_option maxRecDepth 100000 in
theorem wJ_X12_soldBy_b53 {T : zT} {s0 : Int32} {S S0 : zS} {a b : Nat}  (hS : S.2 a b = S0.2 a b) : zwl (fX12_soldBy_b53 T s0 S) (fun q0 => q0.2.2 a b = S0.2 a b) := by
  unfold fX12_soldBy_b53
  exact zwl_r hS
set_option maxHeartbeats 40000 in
set_option maxRecDepth 100000 in
theorem wJ_X12_soldBy_b27 {T : zT} {k0 : Nat} {x1 : Int32} {x2 : Int32} {S S0 : zS} {a b : Nat} (h0 : ¬ a = zr T k0 34) (h1 : ¬ a = zr T k0 35) (hS : S.2 a b = S0.2 a b) : zwl (fX12_soldBy_b27 T k0 x1 x2 S) (fun q0 => q0.2.2 a b = S0.2 a b) := by
  unfold fX12_soldBy_b27
  refine zwl_sJn hS (fun S6 e1 => ?_)
  refine zwl_sJn e1 (fun S7 e2 => ?_)
  refine zwl_b (wJ_X12_mostCoin h0 h1 e2) (fun r8 S10 e3 => ?_)
  refine zwl_i ?_ ?_
  · exact (wJ_X12_soldBy_b53  e3)
  · exact (wJ_X12_soldBy_b53  e3)
set_option maxHeartbeats 40000 in
set_option maxRecDepth 100000 in
theorem wJ_X12_soldBy {T : zT} {k0 : Nat} {x1 : Int32} {x2 : Int32} {S S0 : zS} {a b : Nat} (h0 : ¬ a = zr T k0 34) (h1 : ¬ a = zr T k0 35) (hS : S.2 a b = S0.2 a b) : zwl (fX12_soldBy T k0 x1 x2 S) (fun q0 => q0.2.2 a b = S0.2 a b) := by
  unfold fX12_soldBy
  refine zwl_b (wJ_X12_asItIs  hS) (fun r1 S3 e2 => ?_)
  refine zwl_g ?_
  refine zwl_i ?_ ?_
  · exact (wJ_X12_soldBy_b27 h0 h1 e2)
  · refine zwl_g ?_
    refine zwl_i ?_ ?_
    · exact (wJ_X12_soldBy_b27 h0 h1 e2)
    · exact zwl_r e2
set_option maxHeartbeats 40000 in
set_option maxRecDepth 100000 in
theorem wJ_X12_finest_b50 {T : zT} {k0 : Nat} {x1 : Int32} {x2 : Int32} {x3 : Int32} {S S0 : zS} {a b : Nat}  (hS : S.2 a b = S0.2 a b) : zwl (fX12_finest_b50 T k0 x1 x2 x3 S) (Sum.elim (fun q1 => q1.2.2.2.2 a b = S0.2 a b) (fun q1 => q1.2.2 a b = S0.2 a b)) := by
  unfold fX12_finest_b50
  refine zwl_v (fun u6 => ?_)
  exact zwl_r hS
set_option maxHeartbeats 40000 in
set_option maxRecDepth 100000 in
theorem wJ_X12_finest_b43 {T : zT} {k0 : Nat} {x3 : Int32} {S S0 : zS} {a b : Nat}  (hS : S.2 a b = S0.2 a b) : zwl (fX12_finest_b43 T k0 x3 S) (Sum.elim (fun q1 => q1.2.2.2.2 a b = S0.2 a b) (fun q1 => q1.2.2 a b = S0.2 a b)) := by
  unfold fX12_finest_b43
  refine zwl_v (fun u8 => ?_)
  exact (wJ_X12_finest_b50  hS)
set_option maxHeartbeats 40000 in
set_option maxRecDepth 100000 in
theorem wJ_X12_finest_l7 {T : zT} {k0 : Nat} {x1 : Int32} {x2 : Int32} {x3 : Int32} {S S0 : zS} {a b : Nat} (h0 : ¬ (a = k0 ∧ b = 52)) (h1 : ¬ a = zr T k0 34) (h2 : ¬ a = zr T k0 35) (hS : S.2 a b = S0.2 a b) : zwl (fX12_finest_l7 T k0 x1 x2 x3 S) (Sum.elim (fun q1 => q1.2.2.2.2 a b = S0.2 a b) (fun q1 => q1.2.2 a b = S0.2 a b)) := by
  unfold fX12_finest_l7
  refine zwl_i ?_ ?_
  · exact zwl_r hS
  · refine zwl_b (wJ_X12_follows h0 h1 h2 hS) (fun r1 S4 e2 => ?_)
    refine zwl_i ?_ ?_
    · refine zwl_i ?_ ?_
      · exact (wJ_X12_finest_b43  e2)
      · refine zwl_i ?_ ?_
        · exact (wJ_X12_finest_b50  e2)
        · exact (wJ_X12_finest_b43  e2)
    · exact (wJ_X12_finest_b50  e2)
set_option maxHeartbeats 40000 in
set_option maxRecDepth 100000 in
theorem wJ_X12_finest {T : zT} {k0 : Nat} {S S0 : zS} {a b : Nat} (h0 : ¬ (a = k0 ∧ b = 52)) (h1 : ¬ a = zr T k0 34) (h2 : ¬ a = zr T k0 35) (hS : S.2 a b = S0.2 a b) : zwl (fX12_finest T k0 S) (fun q0 => q0.2.2 a b = S0.2 a b) := by
  unfold fX12_finest
  refine zwl_b1 (zwl_lp (I := (fun q0 => q0.2.2.2.2 a b = S0.2 a b)) (Q := (fun q0 => q0.2.2 a b = S0.2 a b)) (fun a e3 => (wJ_X12_finest_l7 h0 h1 h2 e3)) hS) (fun e10 e1 => ?_)
  exact zwl_r e1
set_option maxHeartbeats 40000 in
set_option maxRecDepth 100000 in
theorem wJ_X12_parts_b21 {T : zT} {S S0 : zS} {a b : Nat}  (hS : S.2 a b = S0.2 a b) : zwl (fX12_parts_b21 T S) (fun q0 => q0.2.2 a b = S0.2 a b) := by
  unfold fX12_parts_b21
  exact zwl_r hS
set_option maxHeartbeats 40000 in
set_option maxRecDepth 100000 in
theorem wJ_X12_parts_l31 {T : zT} {k0 : Nat} {x1 : Int32} {x3 : Int32} {S S0 : zS} {a b : Nat}  (hS : S.2 a b = S0.2 a b) : zwl (fX12_parts_l31 T k0 x1 x3 S) (Sum.elim (fun q1 => q1.2.2 a b = S0.2 a b) (fun q1 => q1.2 a b = S0.2 a b)) := by
  unfold fX12_parts_l31
  refine zwl_i ?_ ?_
  · exact zwl_r hS
  · refine zwl_g ?_
    refine zwl_g ?_
    refine zwl_sJn hS (fun S14 e1 => ?_)
    refine zwl_v (fun u15 => ?_)
    exact zwl_r e1
set_option maxHeartbeats 40000 in
set_option maxRecDepth 100000 in
theorem wJ_X12_parts {T : zT} {k0 : Nat} {x1 : Int32} {x2 : Int32} {S S0 : zS} {a b : Nat} (h0 : ¬ (a = k0 ∧ b = 52)) (h1 : ¬ a = zr T k0 34) (h2 : ¬ a = zr T k0 35) (hS : S.2 a b = S0.2 a b) : zwl (fX12_parts T k0 x1 x2 S) (fun q0 => q0.2.2 a b = S0.2 a b) := by
  unfold fX12_parts
  refine zwl_t (fun r1 => ?_)
  refine zwl_i ?_ ?_
  · exact (wJ_X12_parts_b21  hS)
  · refine zwl_t (fun r4 => ?_)
    refine zwl_i ?_ ?_
    · exact (wJ_X12_parts_b21  hS)
    · refine zwl_i ?_ ?_
      · exact (wJ_X12_parts_b21  hS)
      · refine zwl_b (wJ_X12_follows h0 h1 h2 hS) (fun r1 S10 e2 => ?_)
        refine zwl_b1 (zwl_lp (I := (fun q0 => q0.2.2 a b = S0.2 a b)) (Q := (fun q0 => q0.2 a b = S0.2 a b)) (fun a e5 => (wJ_X12_parts_l31  e5)) e2) (fun e16 e3 => ?_)
        refine zwl_b (wJ_X12_follows h0 h1 h2 e3) (fun r6 S19 e7 => ?_)
        refine zwl_t (fun e26 => ?_)
        exact zwl_r e7
set_option maxHeartbeats 40000 in
set_option maxRecDepth 100000 in
theorem wJ_X12_goes_b24 {T : zT} {S S0 : zS} {a b : Nat}  (hS : S.2 a b = S0.2 a b) : zwl (fX12_goes_b24 T S) (fun q0 => q0.2.2 a b = S0.2 a b) := by
  unfold fX12_goes_b24
  exact zwl_r hS
set_option maxHeartbeats 40000 in
set_option maxRecDepth 100000 in
theorem wJ_X12_goes_b77 {T : zT} {k0 : Nat} {x1 : Int32} {x3 : Int32} {x5 : Int32} {s0 : Int32} {s1 : Int32} {S S0 : zS} {a b : Nat}  (hS : S.2 a b = S0.2 a b) : zwl (fX12_goes_b77 T k0 x1 x3 x5 s0 s1 S) (Sum.elim (fun q1 => q1.2.2.2 a b = S0.2 a b) (fun q1 => q1.2.2 a b = S0.2 a b)) := by
  unfold fX12_goes_b77
  refine zwl_v (fun u14 => ?_)
  refine zwl_v (fun u15 => ?_)
  exact zwl_r hS
set_option maxHeartbeats 40000 in
set_option maxRecDepth 100000 in
theorem wJ_X12_goes_b76 {T : zT} {k0 : Nat} {x1 : Int32} {x3 : Int32} {x5 : Int32} {s0 : Int32} {S S0 : zS} {a b : Nat}  (hS : S.2 a b = S0.2 a b) : zwl (fX12_goes_b76 T k0 x1 x3 x5 s0 S) (Sum.elim (fun q1 => q1.2.2.2 a b = S0.2 a b) (fun q1 => q1.2.2 a b = S0.2 a b)) := by
  unfold fX12_goes_b76
  exact (wJ_X12_goes_b77  hS)
set_option maxHeartbeats 40000 in
set_option maxRecDepth 100000 in
theorem wJ_X12_goes_l38 {T : zT} {k0 : Nat} {x1 : Int32} {x3 : Int32} {x4 : Int32} {x5 : Int32} {S S0 : zS} {a b : Nat} (h0 : ¬ (a = k0 ∧ b = 52)) (h1 : ¬ a = zr T k0 34) (h2 : ¬ a = zr T k0 35) (hS : S.2 a b = S0.2 a b) : zwl (fX12_goes_l38 T k0 x1 x3 x4 x5 S) (Sum.elim (fun q1 => q1.2.2.2 a b = S0.2 a b) (fun q1 => q1.2.2 a b = S0.2 a b)) := by
  unfold fX12_goes_l38
  refine zwl_i ?_ ?_
  · exact zwl_r hS
  · refine zwl_b (wJ_X12_follows h0 h1 h2 hS) (fun r1 S12 e2 => ?_)
    refine zwl_i ?_ ?_
    · refine zwl_t (fun r16 => ?_)
      refine zwl_t (fun r18 => ?_)
      refine zwl_i ?_ ?_
      · exact (wJ_X12_goes_b77  e2)
      · exact (wJ_X12_goes_b76  e2)
    · exact (wJ_X12_goes_b76  e2)
set_option maxHeartbeats 40000 in
set_option maxRecDepth 100000 in
theorem wJ_X12_goes {T : zT} {k0 : Nat} {x1 : Int32} {x2 : Int32} {x3 : Int32} {S S0 : zS} {a b : Nat} (h0 : ¬ (a = k0 ∧ b = 52)) (h1 : ¬ a = zr T k0 34) (h2 : ¬ a = zr T k0 35) (hS : S.2 a b = S0.2 a b) : zwl (fX12_goes T k0 x1 x2 x3 S) (fun q0 => q0.2.2 a b = S0.2 a b) := by
  unfold fX12_goes
  refine zwl_t (fun r1 => ?_)
  refine zwl_i ?_ ?_
  · exact (wJ_X12_goes_b24  hS)
  · refine zwl_i ?_ ?_
    · exact (wJ_X12_goes_b24  hS)
    · refine zwl_t (fun r5 => ?_)
      refine zwl_i ?_ ?_
      · exact (wJ_X12_goes_b24  hS)
      · refine zwl_sJf h0 hS (fun S8 e1 => ?_)
        refine zwl_b1 (zwl_lp (I := (fun q0 => q0.2.2.2 a b = S0.2 a b)) (Q := (fun q0 => q0.2.2 a b = S0.2 a b)) (fun a e4 => (wJ_X12_goes_l38 h0 h1 h2 e4)) e1) (fun e21 e2 => ?_)
        exact zwl_r e2
set_option maxHeartbeats 40000 in
set_option maxRecDepth 100000 in
theorem wJ_X6_open {T : zT} {k0 : Nat} {k1 : Nat} {n1 : Nat} {x2 : Int32} {k3 : Nat} {x4 : Int32} {S S0 : zS} {a b : Nat}  (hS : S.2 a b = S0.2 a b) : zwl (fX6_open T k0 k1 n1 x2 k3 x4 S) (fun q0 => q0.2.2 a b = S0.2 a b) := by
  unfold fX6_open
  refine zwl_b (wJ_X10_split  hS) (fun r1 S3 e2 => ?_)
  refine zwl_sJn e2 (fun S4 e3 => ?_)
  refine zwl_b (wJ_X6_next  e3) (fun r4 S7 e5 => ?_)
  refine zwl_sJn e5 (fun S8 e6 => ?_)
  refine zwl_sJn e6 (fun S9 e7 => ?_)
  refine zwl_sJn e7 (fun S10 e8 => ?_)
  refine zwl_g ?_
  refine zwl_sJn e8 (fun S12 e9 => ?_)
  exact zwl_r e9
set_option maxHeartbeats 40000 in
set_option maxRecDepth 100000 in
theorem wJ_X12_compared_b139 {T : zT} {s0 : Int32} {s1 : Nat} {S S0 : zS} {a b : Nat}  (hS : S.2 a b = S0.2 a b) : zwl (fX12_compared_b139 T s0 s1 S) (fun q0 => q0.2.2 a b = S0.2 a b) := by
  unfold fX12_compared_b139
  refine zwl_b (wJ_X12_entry  hS) (fun r1 S22 e2 => ?_)
  exact zwl_r e2
set_option maxHeartbeats 40000 in
set_option maxRecDepth 100000 in
theorem wJ_X12_compared_b90 {T : zT} {k0 : Nat} {x1 : Int32} {x2 : Int32} {s0 : Int32} {s1 : Int32} {s2 : Nat} {S S0 : zS} {a b : Nat}  (hS : S.2 a b = S0.2 a b) : zwl (fX12_compared_b90 T k0 x1 x2 s0 s1 s2 S) (fun q0 => q0.2.2 a b = S0.2 a b) := by
  unfold fX12_compared_b90
  refine zwl_sJn hS (fun S13 e1 => ?_)
  refine zwl_b (wJ_X12_sum  e1) (fun r2 S16 e3 => ?_)
  refine zwl_i ?_ ?_
  · exact (wJ_X12_compared_b139  e3)
  · refine zwl_i ?_ ?_
    · refine zwl_i ?_ ?_
      · exact (wJ_X12_compared_b139  e3)
      · exact (wJ_X12_compared_b139  e3)
    · refine zwl_i ?_ ?_
      · exact (wJ_X12_compared_b139  e3)
      · exact (wJ_X12_compared_b139  e3)
set_option maxHeartbeats 40000 in
set_option maxRecDepth 100000 in
theorem wJ_X12_compared_b75 {T : zT} {k0 : Nat} {x1 : Int32} {s0 : Int32} {S S0 : zS} {a b : Nat}  (hS : S.2 a b = S0.2 a b) : zwl (fX12_compared_b75 T k0 x1 s0 S) (fun q0 => q0.2.2 a b = S0.2 a b) := by
  unfold fX12_compared_b75
  refine zwl_i ?_ ?_
  · exact (wJ_X12_compared_b90  hS)
  · exact (wJ_X12_compared_b90  hS)
set_option maxHeartbeats 40000 in
set_option maxRecDepth 100000 in
theorem wJ_X12_compared_b74 {T : zT} {k0 : Nat} {x1 : Int32} {S S0 : zS} {a b : Nat}  (hS : S.2 a b = S0.2 a b) : zwl (fX12_compared_b74 T k0 x1 S) (fun q0 => q0.2.2 a b = S0.2 a b) := by
  unfold fX12_compared_b74
  exact (wJ_X12_compared_b75  hS)
set_option maxHeartbeats 40000 in
set_option maxRecDepth 100000 in
theorem wJ_X12_compared_b37 {T : zT} {k0 : Nat} {x1 : Int32} {S S0 : zS} {a b : Nat}  (hS : S.2 a b = S0.2 a b) : zwl (fX12_compared_b37 T k0 x1 S) (fun q0 => q0.2.2 a b = S0.2 a b) := by
  unfold fX12_compared_b37
  refine zwl_b (wJ_X12_isCounted  hS) (fun r1 S9 e2 => ?_)
  refine zwl_sJn e2 (fun S10 e3 => ?_)
  refine zwl_i ?_ ?_
  · exact (wJ_X12_compared_b74  e3)
  · refine zwl_t (fun r24 => ?_)
    refine zwl_i ?_ ?_
    · exact (wJ_X12_compared_b75  e3)
    · exact (wJ_X12_compared_b74  e3)
set_option maxHeartbeats 40000 in
set_option maxRecDepth 100000 in
theorem wJ_X12_compared {T : zT} {k0 : Nat} {S S0 : zS} {a b : Nat}  (hS : S.2 a b = S0.2 a b) : zwl (fX12_compared T k0 S) (fun q0 => q0.2.2 a b = S0.2 a b) := by
  unfold fX12_compared
  refine zwl_b (wJ_X12_sum  hS) (fun r1 S3 e2 => ?_)
  refine zwl_t (fun r4 => ?_)
  refine zwl_i ?_ ?_
  · exact (wJ_X12_compared_b37  e2)
  · refine zwl_i ?_ ?_
    · exact (wJ_X12_compared_b37  e2)
    · refine zwl_i ?_ ?_
      · exact (wJ_X12_compared_b37  e2)
      · refine zwl_b (wJ_X12_fails  e2) (fun r3 S31 e4 => ?_)
        exact zwl_r e4
set_option maxHeartbeats 40000 in
set_option maxRecDepth 100000 in
theorem wJ_X12_hangsOn_b17 {T : zT} {s0 : Int32} {s1 : Int32} {S S0 : zS} {a b : Nat}  (hS : S.2 a b = S0.2 a b) : zwl (fX12_hangsOn_b17 T s0 s1 S) (fun q0 => q0.2.2 a b = S0.2 a b) := by
  unfold fX12_hangsOn_b17
  exact zwl_r hS
set_option maxHeartbeats 40000 in
set_option maxRecDepth 100000 in
theorem wJ_X12_hangsOn {T : zT} {k0 : Nat} {x1 : Int32} {x2 : Int32} {S S0 : zS} {a b : Nat} (h0 : ¬ a = zr T k0 34) (h1 : ¬ a = zr T k0 35) (hS : S.2 a b = S0.2 a b) : zwl (fX12_hangsOn T k0 x1 x2 S) (fun q0 => q0.2.2 a b = S0.2 a b) := by
  unfold fX12_hangsOn
  refine zwl_b (wJ_X12_without h0 h1 hS) (fun r1 S3 e1 => ?_)
  refine zwl_i ?_ ?_
  · exact (wJ_X12_hangsOn_b17  e1)
  · exact (wJ_X12_hangsOn_b17  e1)
set_option maxHeartbeats 40000 in
set_option maxRecDepth 100000 in
theorem wJ_X12_wise_b69 {T : zT} {s0 : Int32} {S S0 : zS} {a b : Nat}  (hS : S.2 a b = S0.2 a b) : zwl (fX12_wise_b69 T s0 S) (fun q0 => q0.2.2 a b = S0.2 a b) := by
  unfold fX12_wise_b69
  exact zwl_r hS
set_option maxHeartbeats 40000 in
set_option maxRecDepth 100000 in
theorem wJ_X12_wise_b60 {T : zT} {S S0 : zS} {a b : Nat}  (hS : S.2 a b = S0.2 a b) : zwl (fX12_wise_b60 T S) (fun q0 => q0.2.2 a b = S0.2 a b) := by
  unfold fX12_wise_b60
  exact (wJ_X12_wise_b69  hS)
set_option maxHeartbeats 40000 in
set_option maxRecDepth 100000 in
theorem wJ_X12_wise {T : zT} {k0 : Nat} {x1 : Int32} {S S0 : zS} {a b : Nat} (h0 : ¬ a = zr T k0 34) (h1 : ¬ a = zr T k0 35) (hS : S.2 a b = S0.2 a b) : zwl (fX12_wise T k0 x1 S) (fun q0 => q0.2.2 a b = S0.2 a b) := by
  unfold fX12_wise
  refine zwl_t (fun r1 => ?_)
  refine zwl_i ?_ ?_
  · exact zwl_r hS
  · refine zwl_b (wJ_X12_asBest h0 h1 hS) (fun r4 S6 e1 => ?_)
    refine zwl_b (wJ_X12_asItIs  e1) (fun r2 S9 e3 => ?_)
    refine zwl_sJn e3 (fun S10 e4 => ?_)
    refine zwl_g ?_
    refine zwl_g ?_
    refine zwl_sJn e4 (fun S13 e5 => ?_)
    refine zwl_b (wJ_X12_mostCoin h0 h1 e5) (fun r14 S16 e6 => ?_)
    refine zwl_i ?_ ?_
    · exact (wJ_X12_wise_b60  e6)
    · refine zwl_i ?_ ?_
      · exact (wJ_X12_wise_b60  e6)
      · exact (wJ_X12_wise_b69  e6)
set_option maxHeartbeats 40000 in
set_option maxRecDepth 100000 in
theorem wJ_X12_borrowed_b17 {T : zT} {s0 : Int32} {S S0 : zS} {a b : Nat}  (hS : S.2 a b = S0.2 a b) : zwl (fX12_borrowed_b17 T s0 S) (fun q0 => q0.2.2 a b = S0.2 a b) := by
  unfold fX12_borrowed_b17
  exact zwl_r hS
set_option maxHeartbeats 40000 in
set_option maxRecDepth 100000 in
theorem wJ_X12_borrowed {T : zT} {k0 : Nat} {x1 : Int32} {S S0 : zS} {a b : Nat} (h0 : ¬ a = zr T k0 34) (h1 : ¬ a = zr T k0 35) (hS : S.2 a b = S0.2 a b) : zwl (fX12_borrowed T k0 x1 S) (fun q0 => q0.2.2 a b = S0.2 a b) := by
  unfold fX12_borrowed
  refine zwl_t (fun r1 => ?_)
  refine zwl_i ?_ ?_
  · exact (wJ_X12_borrowed_b17  hS)
  · refine zwl_b (wJ_X12_borrowedIn h0 h1 hS) (fun r4 S6 e1 => ?_)
    exact (wJ_X12_borrowed_b17  e1)
set_option maxHeartbeats 40000 in
set_option maxRecDepth 100000 in
theorem wJ_X12_when_b45 {T : zT} {k0 : Nat} {x1 : Int32} {x2 : Int32} {x3 : Int32} {S S0 : zS} {a b : Nat}  (hS : S.2 a b = S0.2 a b) : zwl (fX12_when_b45 T k0 x1 x2 x3 S) (Sum.elim (fun q1 => q1.2.2.2.2 a b = S0.2 a b) (fun q1 => q1.2.2 a b = S0.2 a b)) := by
  unfold fX12_when_b45
  refine zwl_v (fun u10 => ?_)
  exact zwl_r hS
set_option maxHeartbeats 40000 in
set_option maxRecDepth 100000 in
theorem wJ_X12_when_l10 {T : zT} {k0 : Nat} {x1 : Int32} {x2 : Int32} {x3 : Int32} {S S0 : zS} {a b : Nat} (h0 : ¬ a = zr T k0 34) (h1 : ¬ a = zr T k0 35) (hS : S.2 a b = S0.2 a b) : zwl (fX12_when_l10 T k0 x1 x2 x3 S) (Sum.elim (fun q1 => q1.2.2.2.2 a b = S0.2 a b) (fun q1 => q1.2.2 a b = S0.2 a b)) := by
  unfold fX12_when_l10
  refine zwl_g ?_
  refine zwl_i ?_ ?_
  · exact zwl_r hS
  · refine zwl_b (wJ_X12_borrowedIn h0 h1 hS) (fun r6 S8 e1 => ?_)
    refine zwl_i ?_ ?_
    · exact (wJ_X12_when_b45  e1)
    · refine zwl_i ?_ ?_
      · exact (wJ_X12_when_b45  e1)
      · exact (wJ_X12_when_b45  e1)
set_option maxHeartbeats 40000 in
set_option maxRecDepth 100000 in
theorem wJ_X12_when {T : zT} {k0 : Nat} {S S0 : zS} {a b : Nat} (h0 : ¬ a = zr T k0 34) (h1 : ¬ a = zr T k0 35) (hS : S.2 a b = S0.2 a b) : zwl (fX12_when T k0 S) (fun q0 => q0.2.2 a b = S0.2 a b) := by
  unfold fX12_when
  refine zwl_b (wJ_X12_asBest h0 h1 hS) (fun r1 S3 e1 => ?_)
  refine zwl_b1 (zwl_lp (I := (fun q0 => q0.2.2.2.2 a b = S0.2 a b)) (Q := (fun q0 => q0.2.2 a b = S0.2 a b)) (fun a e4 => (wJ_X12_when_l10 h0 h1 e4)) e1) (fun e12 e2 => ?_)
  exact zwl_r e2
set_option maxHeartbeats 40000 in
set_option maxRecDepth 100000 in
theorem wJ_X12_sold_b26 {T : zT} {s0 : Int32} {S S0 : zS} {a b : Nat}  (hS : S.2 a b = S0.2 a b) : zwl (fX12_sold_b26 T s0 S) (fun q0 => q0.2.2 a b = S0.2 a b) := by
  unfold fX12_sold_b26
  exact zwl_r hS
set_option maxHeartbeats 40000 in
set_option maxRecDepth 100000 in
theorem wJ_X12_sold_b25 {T : zT} {S S0 : zS} {a b : Nat}  (hS : S.2 a b = S0.2 a b) : zwl (fX12_sold_b25 T S) (fun q0 => q0.2.2 a b = S0.2 a b) := by
  unfold fX12_sold_b25
  exact (wJ_X12_sold_b26  hS)
set_option maxHeartbeats 40000 in
set_option maxRecDepth 100000 in
theorem wJ_X12_sold {T : zT} {k0 : Nat} {x1 : Int32} {x2 : Int32} {S S0 : zS} {a b : Nat} (h0 : ¬ a = zr T k0 34) (h1 : ¬ a = zr T k0 35) (hS : S.2 a b = S0.2 a b) : zwl (fX12_sold T k0 x1 x2 S) (fun q0 => q0.2.2 a b = S0.2 a b) := by
  unfold fX12_sold
  refine zwl_t (fun r1 => ?_)
  refine zwl_i ?_ ?_
  · exact (wJ_X12_sold_b25  hS)
  · refine zwl_t (fun r4 => ?_)
    refine zwl_i ?_ ?_
    · exact (wJ_X12_sold_b25  hS)
    · refine zwl_b (wJ_X12_soldBy h0 h1 hS) (fun r7 S9 e1 => ?_)
      exact (wJ_X12_sold_b26  e1)
set_option maxHeartbeats 40000 in
set_option maxRecDepth 100000 in
theorem wJ_X12_selling_b60 {T : zT} {k0 : Nat} {x1 : Int32} {x2 : Int32} {x3 : Int32} {x4 : Int32} {S S0 : zS} {a b : Nat}  (hS : S.2 a b = S0.2 a b) : zwl (fX12_selling_b60 T k0 x1 x2 x3 x4 S) (Sum.elim (fun q1 => q1.2.2.2.2 a b = S0.2 a b) (fun q1 => q1.2.2 a b = S0.2 a b)) := by
  unfold fX12_selling_b60
  refine zwl_v (fun u13 => ?_)
  exact zwl_r hS
set_option maxHeartbeats 40000 in
set_option maxRecDepth 100000 in
theorem wJ_X12_selling_l21 {T : zT} {k0 : Nat} {x1 : Int32} {x2 : Int32} {x3 : Int32} {x4 : Int32} {S S0 : zS} {a b : Nat} (h0 : ¬ a = zr T k0 34) (h1 : ¬ a = zr T k0 35) (hS : S.2 a b = S0.2 a b) : zwl (fX12_selling_l21 T k0 x1 x2 x3 x4 S) (Sum.elim (fun q1 => q1.2.2.2.2 a b = S0.2 a b) (fun q1 => q1.2.2 a b = S0.2 a b)) := by
  unfold fX12_selling_l21
  refine zwl_g ?_
  refine zwl_i ?_ ?_
  · exact zwl_r hS
  · refine zwl_b (wJ_X12_soldBy h0 h1 hS) (fun r9 S11 e1 => ?_)
    refine zwl_i ?_ ?_
    · exact (wJ_X12_selling_b60  e1)
    · refine zwl_i ?_ ?_
      · exact (wJ_X12_selling_b60  e1)
      · exact (wJ_X12_selling_b60  e1)
set_option maxHeartbeats 40000 in
set_option maxRecDepth 100000 in
theorem wJ_X12_selling {T : zT} {k0 : Nat} {x1 : Int32} {S S0 : zS} {a b : Nat} (h0 : ¬ a = zr T k0 34) (h1 : ¬ a = zr T k0 35) (hS : S.2 a b = S0.2 a b) : zwl (fX12_selling T k0 x1 S) (fun q0 => q0.2.2 a b = S0.2 a b) := by
  unfold fX12_selling
  refine zwl_t (fun r1 => ?_)
  refine zwl_i ?_ ?_
  · exact zwl_r hS
  · refine zwl_b (wJ_X12_asBest h0 h1 hS) (fun r4 S6 e1 => ?_)
    refine zwl_b1 (zwl_lp (I := (fun q0 => q0.2.2.2.2 a b = S0.2 a b)) (Q := (fun q0 => q0.2.2 a b = S0.2 a b)) (fun a e4 => (wJ_X12_selling_l21 h0 h1 e4)) e1) (fun e15 e2 => ?_)
    exact zwl_r e2
set_option maxHeartbeats 40000 in
set_option maxRecDepth 100000 in
theorem wJ_X12_ruled_b20 {T : zT} {S S0 : zS} {a b : Nat}  (hS : S.2 a b = S0.2 a b) : zwl (fX12_ruled_b20 T S) (fun q0 => q0.2.2 a b = S0.2 a b) := by
  unfold fX12_ruled_b20
  exact zwl_r hS
set_option maxHeartbeats 40000 in
set_option maxRecDepth 100000 in
theorem wJ_X12_ruled_b102 {T : zT} {s0 : Int32} {S S0 : zS} {a b : Nat}  (hS : S.2 a b = S0.2 a b) : zwl (fX12_ruled_b102 T s0 S) (fun q0 => q0.2.2 a b = S0.2 a b) := by
  unfold fX12_ruled_b102
  exact zwl_r hS
set_option maxHeartbeats 40000 in
set_option maxRecDepth 100000 in
theorem wJ_X12_ruled_b73 {T : zT} {s0 : Int32} {S S0 : zS} {a b : Nat}  (hS : S.2 a b = S0.2 a b) : zwl (fX12_ruled_b73 T s0 S) (fun q0 => q0.2.2 a b = S0.2 a b) := by
  unfold fX12_ruled_b73
  exact zwl_r hS
set_option maxHeartbeats 40000 in
set_option maxRecDepth 100000 in
theorem wJ_X12_ruled_b61 {T : zT} {S S0 : zS} {a b : Nat}  (hS : S.2 a b = S0.2 a b) : zwl (fX12_ruled_b61 T S) (fun q0 => q0.2.2 a b = S0.2 a b) := by
  unfold fX12_ruled_b61
  exact (wJ_X12_ruled_b73  hS)
set_option maxHeartbeats 40000 in
set_option maxRecDepth 100000 in
theorem wJ_X12_ruled_b36 {T : zT} {k0 : Nat} {x1 : Int32} {x2 : Int32} {s0 : Int32} {S S0 : zS} {a b : Nat} (h0 : ¬ (a = k0 ∧ b = 52)) (h1 : ¬ a = zr T k0 34) (h2 : ¬ a = zr T k0 35) (hS : S.2 a b = S0.2 a b) : zwl (fX12_ruled_b36 T k0 x1 x2 s0 S) (fun q0 => q0.2.2 a b = S0.2 a b) := by
  unfold fX12_ruled_b36
  refine zwl_b (wJ_X12_follows h0 h1 h2 hS) (fun r1 S10 e2 => ?_)
  refine zwl_i ?_ ?_
  · refine zwl_i ?_ ?_
    · exact (wJ_X12_ruled_b61  e2)
    · refine zwl_i ?_ ?_
      · exact (wJ_X12_ruled_b73  e2)
      · exact (wJ_X12_ruled_b61  e2)
  · refine zwl_i ?_ ?_
    · exact (wJ_X12_ruled_b102  e2)
    · refine zwl_i ?_ ?_
      · refine zwl_t (fun r14 => ?_)
        exact (wJ_X12_ruled_b102  e2)
      · exact (wJ_X12_ruled_b102  e2)
set_option maxHeartbeats 40000 in
set_option maxRecDepth 100000 in
theorem wJ_X12_ruled {T : zT} {k0 : Nat} {x1 : Int32} {x2 : Int32} {S S0 : zS} {a b : Nat} (h0 : ¬ a = zr T k0 34) (h1 : ¬ a = zr T k0 35) (h2 : ¬ (a = k0 ∧ b = 52)) (hS : S.2 a b = S0.2 a b) : zwl (fX12_ruled T k0 x1 x2 S) (fun q0 => q0.2.2 a b = S0.2 a b) := by
  unfold fX12_ruled
  refine zwl_t (fun r1 => ?_)
  refine zwl_i ?_ ?_
  · exact (wJ_X12_ruled_b20  hS)
  · refine zwl_t (fun r4 => ?_)
    refine zwl_i ?_ ?_
    · exact (wJ_X12_ruled_b20  hS)
    · refine zwl_i ?_ ?_
      · refine zwl_b (wJ_X12_asBest h0 h1 hS) (fun r18 S20 e1 => ?_)
        exact (wJ_X12_ruled_b36 h2 h0 h1 e1)
      · exact (wJ_X12_ruled_b36 h2 h0 h1 hS)
set_option maxHeartbeats 40000 in
set_option maxRecDepth 100000 in
theorem wJ_X12_fact {T : zT} {k0 : Nat} {S S0 : zS} {a b : Nat}  (hS : S.2 a b = S0.2 a b) : zwl (fX12_fact T k0 S) (fun q0 => q0.2.2 a b = S0.2 a b) := by
  unfold fX12_fact
  refine zwl_b (wJ_X12_blanks  hS) (fun r1 S3 e2 => ?_)
  refine zwl_t (fun r4 => ?_)
  refine zwl_i ?_ ?_
  · refine zwl_t (fun r7 => ?_)
    refine zwl_i ?_ ?_
    · refine zwl_b (wJ_X12_opens  e2) (fun r3 S15 e4 => ?_)
      refine zwl_sJn e4 (fun S16 e5 => ?_)
      exact zwl_r e5
    · refine zwl_b (wJ_X12_compared  e2) (fun r6 S12 e7 => ?_)
      exact zwl_r e7
  · refine zwl_b (wJ_X12_opens  e2) (fun r8 S19 e9 => ?_)
    refine zwl_sJn e9 (fun S20 e10 => ?_)
    exact zwl_r e10
set_option maxHeartbeats 40000 in
set_option maxRecDepth 100000 in
theorem wJ_X12_hangs_b31 {T : zT} {s0 : Int32} {S S0 : zS} {a b : Nat}  (hS : S.2 a b = S0.2 a b) : zwl (fX12_hangs_b31 T s0 S) (fun q0 => q0.2.2 a b = S0.2 a b) := by
  unfold fX12_hangs_b31
  exact zwl_r hS
set_option maxHeartbeats 40000 in
set_option maxRecDepth 100000 in
theorem wJ_X12_hangs {T : zT} {k0 : Nat} {x1 : Int32} {S S0 : zS} {a b : Nat} (h0 : ¬ a = zr T k0 34) (h1 : ¬ a = zr T k0 35) (hS : S.2 a b = S0.2 a b) : zwl (fX12_hangs T k0 x1 S) (fun q0 => q0.2.2 a b = S0.2 a b) := by
  unfold fX12_hangs
  refine zwl_t (fun r1 => ?_)
  refine zwl_i ?_ ?_
  · exact zwl_r hS
  · refine zwl_b (wJ_X12_asBest h0 h1 hS) (fun r4 S6 e1 => ?_)
    refine zwl_i ?_ ?_
    · exact (wJ_X12_hangs_b31  e1)
    · refine zwl_b (wJ_X12_hangsOn h0 h1 e1) (fun r8 S10 e2 => ?_)
      exact (wJ_X12_hangs_b31  e2)
set_option maxHeartbeats 40000 in
set_option maxRecDepth 100000 in
theorem wJ_X12_key_b85 {T : zT} {k0 : Nat} {x1 : Int32} {x2 : Int32} {x3 : Int32} {x4 : Int32} {S S0 : zS} {a b : Nat}  (hS : S.2 a b = S0.2 a b) : zwl (fX12_key_b85 T k0 x1 x2 x3 x4 S) (Sum.elim (fun q1 => q1.2.2.2.2 a b = S0.2 a b) (fun q1 => q1.2.2 a b = S0.2 a b)) := by
  unfold fX12_key_b85
  refine zwl_v (fun u8 => ?_)
  exact zwl_r hS
set_option maxHeartbeats 40000 in
set_option maxRecDepth 100000 in
theorem wJ_X12_key_b79 {T : zT} {k0 : Nat} {x1 : Int32} {x4 : Int32} {x5 : Int32} {S S0 : zS} {a b : Nat}  (hS : S.2 a b = S0.2 a b) : zwl (fX12_key_b79 T k0 x1 x4 x5 S) (Sum.elim (fun q1 => q1.2.2.2.2 a b = S0.2 a b) (fun q1 => q1.2.2 a b = S0.2 a b)) := by
  unfold fX12_key_b79
  exact (wJ_X12_key_b85  hS)
set_option maxHeartbeats 40000 in
set_option maxRecDepth 100000 in
theorem wJ_X12_key_l13 {T : zT} {k0 : Nat} {x1 : Int32} {x2 : Int32} {x3 : Int32} {x4 : Int32} {S S0 : zS} {a b : Nat} (h0 : ¬ a = zr T k0 34) (h1 : ¬ a = zr T k0 35) (hS : S.2 a b = S0.2 a b) : zwl (fX12_key_l13 T k0 x1 x2 x3 x4 S) (Sum.elim (fun q1 => q1.2.2.2.2 a b = S0.2 a b) (fun q1 => q1.2.2 a b = S0.2 a b)) := by
  unfold fX12_key_l13
  refine zwl_i ?_ ?_
  · exact zwl_r hS
  · refine zwl_i ?_ ?_
    · exact zwl_r hS
    · refine zwl_g ?_
      refine zwl_i ?_ ?_
      · refine zwl_b (wJ_X12_hangsOn h0 h1 hS) (fun r9 S11 e1 => ?_)
        refine zwl_i ?_ ?_
        · exact (wJ_X12_key_b79  e1)
        · refine zwl_i ?_ ?_
          · exact (wJ_X12_key_b79  e1)
          · refine zwl_i ?_ ?_
            · refine zwl_g ?_
              refine zwl_g ?_
              refine zwl_i ?_ ?_
              · exact (wJ_X12_key_b85  e1)
              · exact (wJ_X12_key_b79  e1)
            · exact (wJ_X12_key_b85  e1)
      · exact (wJ_X12_key_b85  hS)
set_option maxHeartbeats 40000 in
set_option maxRecDepth 100000 in
theorem wJ_X12_key_b91 {T : zT} {x2 : Int32} {S S0 : zS} {a b : Nat}  (hS : S.2 a b = S0.2 a b) : zwl (fX12_key_b91 T x2 S) (fun q0 => q0.2.2 a b = S0.2 a b) := by
  unfold fX12_key_b91
  exact zwl_r hS
set_option maxHeartbeats 40000 in
set_option maxRecDepth 100000 in
theorem wJ_X12_key {T : zT} {k0 : Nat} {S S0 : zS} {a b : Nat} (h0 : ¬ a = zr T k0 34) (h1 : ¬ a = zr T k0 35) (hS : S.2 a b = S0.2 a b) : zwl (fX12_key T k0 S) (fun q0 => q0.2.2 a b = S0.2 a b) := by
  unfold fX12_key
  refine zwl_b (wJ_X12_asBest h0 h1 hS) (fun r1 S3 e1 => ?_)
  refine zwl_b1 (zwl_lp (I := (fun q0 => q0.2.2.2.2 a b = S0.2 a b)) (Q := (fun q0 => q0.2.2 a b = S0.2 a b)) (fun a e4 => (wJ_X12_key_l13 h0 h1 e4)) e1) (fun e18 e2 => ?_)
  exact (wJ_X12_key_b91  e2)
set_option maxHeartbeats 40000 in
set_option maxRecDepth 100000 in
theorem wJ_X12_test_b199 {T : zT} {k0 : Nat} {x1 : Int32} {x2 : Int32} {S S0 : zS} {a b : Nat}  (hS : S.2 a b = S0.2 a b) : zwl (fX12_test_b199 T k0 x1 x2 S) (Sum.elim (fun q1 => q1.2.2.2 a b = S0.2 a b) (fun q1 => q1.2 a b = S0.2 a b)) := by
  unfold fX12_test_b199
  exact zwl_r hS
set_option maxHeartbeats 40000 in
set_option maxRecDepth 100000 in
theorem wJ_X12_test_b122 {T : zT} {k0 : Nat} {x2 : Int32} {s0 : Int32} {s1 : Int32} {s2 : Nat} {S S0 : zS} {a b : Nat}  (hS : S.2 a b = S0.2 a b) : zwl (fX12_test_b122 T k0 x2 s0 s1 s2 S) (Sum.elim (fun q1 => q1.2.2.2 a b = S0.2 a b) (fun q1 => q1.2 a b = S0.2 a b)) := by
  unfold fX12_test_b122
  refine zwl_sJn hS (fun S25 e1 => ?_)
  exact (wJ_X12_test_b199  e1)
set_option maxHeartbeats 40000 in
set_option maxRecDepth 100000 in
theorem wJ_X12_test_b105 {T : zT} {k0 : Nat} {x2 : Int32} {x3 : Int32} {s0 : Int32} {s1 : Nat} {S S0 : zS} {a b : Nat}  (hS : S.2 a b = S0.2 a b) : zwl (fX12_test_b105 T k0 x2 x3 s0 s1 S) (Sum.elim (fun q1 => q1.2.2.2 a b = S0.2 a b) (fun q1 => q1.2 a b = S0.2 a b)) := by
  unfold fX12_test_b105
  refine zwl_b (wJ_X12_opens  hS) (fun r1 S23 e2 => ?_)
  refine zwl_i ?_ ?_
  · exact (wJ_X12_test_b122  e2)
  · exact (wJ_X12_test_b122  e2)
set_option maxHeartbeats 40000 in
set_option maxRecDepth 100000 in
theorem wJ_X12_test_b93 {T : zT} {k0 : Nat} {x2 : Int32} {x3 : Int32} {S S0 : zS} {a b : Nat}  (hS : S.2 a b = S0.2 a b) : zwl (fX12_test_b93 T k0 x2 x3 S) (Sum.elim (fun q1 => q1.2.2.2 a b = S0.2 a b) (fun q1 => q1.2 a b = S0.2 a b)) := by
  unfold fX12_test_b93
  refine zwl_i ?_ ?_
  · exact (wJ_X12_test_b105  hS)
  · exact (wJ_X12_test_b105  hS)
set_option maxHeartbeats 40000 in
set_option maxRecDepth 100000 in
theorem wJ_X12_test_b82 {T : zT} {k0 : Nat} {x2 : Int32} {x3 : Int32} {x4 : Int32} {S S0 : zS} {a b : Nat}  (hS : S.2 a b = S0.2 a b) : zwl (fX12_test_b82 T k0 x2 x3 x4 S) (Sum.elim (fun q1 => q1.2.2.2 a b = S0.2 a b) (fun q1 => q1.2 a b = S0.2 a b)) := by
  unfold fX12_test_b82
  refine zwl_i ?_ ?_
  · exact (wJ_X12_test_b93  hS)
  · refine zwl_b (wJ_X12_answers  hS) (fun r1 S28 e2 => ?_)
    exact (wJ_X12_test_b93  e2)
set_option maxHeartbeats 40000 in
set_option maxRecDepth 100000 in
theorem wJ_X12_test_b164 {T : zT} {k0 : Nat} {x1 : Int32} {x2 : Int32} {S S0 : zS} {a b : Nat}  (hS : S.2 a b = S0.2 a b) : zwl (fX12_test_b164 T k0 x1 x2 S) (Sum.elim (fun q1 => q1.2.2.2 a b = S0.2 a b) (fun q1 => q1.2 a b = S0.2 a b)) := by
  unfold fX12_test_b164
  refine zwl_sJn hS (fun S39 e1 => ?_)
  refine zwl_sJn e1 (fun S40 e2 => ?_)
  refine zwl_sJn e2 (fun S41 e3 => ?_)
  exact (wJ_X12_test_b199  e3)
set_option maxHeartbeats 40000 in
set_option maxRecDepth 100000 in
theorem wJ_X12_test_b36 {T : zT} {k0 : Nat} {x2 : Int32} {s0 : Int32} {S S0 : zS} {a b : Nat}  (hS : S.2 a b = S0.2 a b) : zwl (fX12_test_b36 T k0 x2 s0 S) (Sum.elim (fun q1 => q1.2.2.2 a b = S0.2 a b) (fun q1 => q1.2 a b = S0.2 a b)) := by
  unfold fX12_test_b36
  exact zwl_r hS
set_option maxHeartbeats 40000 in
set_option maxRecDepth 100000 in
theorem wJ_X12_test_l9 {T : zT} {k0 : Nat} {x1 : Int32} {x2 : Int32} {S S0 : zS} {a b : Nat}  (hS : S.2 a b = S0.2 a b) : zwl (fX12_test_l9 T k0 x1 x2 S) (Sum.elim (fun q1 => q1.2.2.2 a b = S0.2 a b) (fun q1 => q1.2 a b = S0.2 a b)) := by
  unfold fX12_test_l9
  refine zwl_i ?_ ?_
  · exact zwl_r hS
  · refine zwl_i ?_ ?_
    · refine zwl_i ?_ ?_
      · refine zwl_b (wJ_X12_answers  hS) (fun r1 S7 e2 => ?_)
        refine zwl_b (wJ_X12_blanks  e2) (fun r3 S10 e4 => ?_)
        refine zwl_t (fun r11 => ?_)
        refine zwl_t (fun r13 => ?_)
        refine zwl_b (wJ_X12_answers  e4) (fun r5 S17 e6 => ?_)
        refine zwl_i ?_ ?_
        · refine zwl_i ?_ ?_
          · refine zwl_b (wJ_X12_answers  e6) (fun r7 S32 e8 => ?_)
            refine zwl_t (fun r33 => ?_)
            refine zwl_i ?_ ?_
            · refine zwl_t (fun r36 => ?_)
              refine zwl_i ?_ ?_
              · exact (wJ_X12_test_b164  e8)
              · refine zwl_b (wJ_X12_fails  e8) (fun r9 S44 e10 => ?_)
                exact (wJ_X12_test_b164  e10)
            · exact (wJ_X12_test_b199  e8)
          · exact (wJ_X12_test_b82  e6)
        · exact (wJ_X12_test_b82  e6)
      · refine zwl_b (wJ_X12_fact  hS) (fun r45 S47 e11 => ?_)
        refine zwl_i ?_ ?_
        · exact (wJ_X12_test_b36  e11)
        · exact (wJ_X12_test_b36  e11)
    · exact zwl_r hS
set_option maxHeartbeats 40000 in
set_option maxRecDepth 100000 in
theorem wJ_X12_test_b202 {T : zT} {S S0 : zS} {a b : Nat}  (hS : S.2 a b = S0.2 a b) : zwl (fX12_test_b202 T S) (fun q0 => q0.2.2 a b = S0.2 a b) := by
  unfold fX12_test_b202
  exact zwl_r hS
set_option maxHeartbeats 40000 in
set_option maxRecDepth 100000 in
theorem wJ_X12_test {T : zT} {k0 : Nat} {S S0 : zS} {a b : Nat}  (hS : S.2 a b = S0.2 a b) : zwl (fX12_test T k0 S) (fun q0 => q0.2.2 a b = S0.2 a b) := by
  unfold fX12_test
  refine zwl_sJn hS (fun S1 e1 => ?_)
  refine zwl_b1 (zwl_lp (I := (fun q0 => q0.2.2.2 a b = S0.2 a b)) (Q := (fun q0 => q0.2 a b = S0.2 a b)) (fun a e4 => (wJ_X12_test_l9  e4)) e1) (fun e49 e2 => ?_)
  exact (wJ_X12_test_b202  e2)
set_option maxHeartbeats 40000 in
set_option maxRecDepth 100000 in
theorem wJ_X12_ifTest_b21 {T : zT} {S S0 : zS} {a b : Nat}  (hS : S.2 a b = S0.2 a b) : zwl (fX12_ifTest_b21 T S) (fun q0 => q0.2.2 a b = S0.2 a b) := by
  unfold fX12_ifTest_b21
  exact zwl_r hS
set_option maxHeartbeats 40000 in
set_option maxRecDepth 100000 in
theorem wJ_X12_ifTest {T : zT} {k0 : Nat} {S S0 : zS} {a b : Nat}  (hS : S.2 a b = S0.2 a b) : zwl (fX12_ifTest T k0 S) (fun q0 => q0.2.2 a b = S0.2 a b) := by
  unfold fX12_ifTest
  refine zwl_i ?_ ?_
  · refine zwl_b (wJ_X12_takes  hS) (fun r2 S4 e1 => ?_)
    refine zwl_i ?_ ?_
    · exact (wJ_X12_ifTest_b21  e1)
    · refine zwl_b (wJ_X12_test  e1) (fun r2 S8 e3 => ?_)
      exact (wJ_X12_ifTest_b21  e3)
  · exact (wJ_X12_ifTest_b21  hS)
set_option maxHeartbeats 40000 in
set_option maxRecDepth 100000 in
theorem wJ_X12_setClause_b63 {T : zT} {k0 : Nat} {x1 : Int32} {x2 : Int32} {x3 : Int32} {S S0 : zS} {a b : Nat}  (hS : S.2 a b = S0.2 a b) : zwl (fX12_setClause_b63 T k0 x1 x2 x3 S) (Sum.elim (fun q1 => q1.2.2.2 a b = S0.2 a b) (fun q1 => q1.2.2 a b = S0.2 a b)) := by
  unfold fX12_setClause_b63
  refine zwl_v (fun u12 => ?_)
  refine zwl_sJn hS (fun S13 e1 => ?_)
  refine zwl_b (wJ_X12_letter  e1) (fun r14 S16 e2 => ?_)
  exact zwl_r e2
set_option maxHeartbeats 40000 in
set_option maxRecDepth 100000 in
theorem wJ_X12_setClause_b54 {T : zT} {k0 : Nat} {x1 : Int32} {x2 : Int32} {x3 : Int32} {S S0 : zS} {a b : Nat}  (hS : S.2 a b = S0.2 a b) : zwl (fX12_setClause_b54 T k0 x1 x2 x3 S) (Sum.elim (fun q1 => q1.2.2.2 a b = S0.2 a b) (fun q1 => q1.2.2 a b = S0.2 a b)) := by
  unfold fX12_setClause_b54
  refine zwl_b (wJ_X12_fails  hS) (fun r1 S11 e2 => ?_)
  exact (wJ_X12_setClause_b63  e2)
set_option maxHeartbeats 40000 in
set_option maxRecDepth 100000 in
theorem wJ_X12_setClause_l21 {T : zT} {k0 : Nat} {x1 : Int32} {x2 : Int32} {x3 : Int32} {S S0 : zS} {a b : Nat}  (hS : S.2 a b = S0.2 a b) : zwl (fX12_setClause_l21 T k0 x1 x2 x3 S) (Sum.elim (fun q1 => q1.2.2.2 a b = S0.2 a b) (fun q1 => q1.2.2 a b = S0.2 a b)) := by
  unfold fX12_setClause_l21
  refine zwl_i ?_ ?_
  · exact zwl_r hS
  · refine zwl_i ?_ ?_
    · refine zwl_g ?_
      refine zwl_i ?_ ?_
      · exact (wJ_X12_setClause_b54  hS)
      · refine zwl_i ?_ ?_
        · exact (wJ_X12_setClause_b54  hS)
        · exact (wJ_X12_setClause_b63  hS)
    · exact zwl_r hS
set_option maxHeartbeats 40000 in
set_option maxRecDepth 100000 in
theorem wJ_X12_setClause_b113 {T : zT} {k0 : Nat} {x1 : Int32} {x2 : Int32} {S S0 : zS} {a b : Nat}  (hS : S.2 a b = S0.2 a b) : zwl (fX12_setClause_b113 T k0 x1 x2 S) (fun q0 => q0.2.2 a b = S0.2 a b) := by
  unfold fX12_setClause_b113
  refine zwl_g ?_
  refine zwl_sJn hS (fun S21 e1 => ?_)
  refine zwl_b (wJ_X12_amount  e1) (fun r22 S24 e2 => ?_)
  refine zwl_g ?_
  refine zwl_sJn e2 (fun S26 e3 => ?_)
  refine zwl_g ?_
  refine zwl_sJn e3 (fun S28 e4 => ?_)
  refine zwl_b (wJ_X12_ifTest  e4) (fun r5 S31 e6 => ?_)
  exact zwl_r e6
set_option maxHeartbeats 40000 in
set_option maxRecDepth 100000 in
theorem wJ_X12_setClause_b87 {T : zT} {k0 : Nat} {x1 : Int32} {x2 : Int32} {S S0 : zS} {a b : Nat}  (hS : S.2 a b = S0.2 a b) : zwl (fX12_setClause_b87 T k0 x1 x2 S) (fun q0 => q0.2.2 a b = S0.2 a b) := by
  unfold fX12_setClause_b87
  refine zwl_i ?_ ?_
  · refine zwl_b (wJ_X12_takes  hS) (fun r32 S34 e1 => ?_)
    refine zwl_i ?_ ?_
    · refine zwl_b (wJ_X12_fails  e1) (fun r2 S38 e3 => ?_)
      exact (wJ_X12_setClause_b113  e3)
    · exact (wJ_X12_setClause_b113  e1)
  · exact (wJ_X12_setClause_b113  hS)
set_option maxHeartbeats 40000 in
set_option maxRecDepth 100000 in
theorem wJ_X12_setClause_e21 {T : zT} {k0 : Nat} {x1 : Int32} {x2 : Int32} {x3 : Int32} {S S0 : zS} {a b : Nat}  (hS : S.2 a b = S0.2 a b) : zwl (fX12_setClause_e21 T k0 x1 x2 x3 S) (fun q0 => q0.2.2 a b = S0.2 a b) := by
  unfold fX12_setClause_e21
  refine zwl_b1 (zwl_lp (I := (fun q0 => q0.2.2.2 a b = S0.2 a b)) (Q := (fun q0 => q0.2.2 a b = S0.2 a b)) (fun a e3 => (wJ_X12_setClause_l21  e3)) hS) (fun e18 e1 => ?_)
  exact (wJ_X12_setClause_b87  e1)
set_option maxHeartbeats 40000 in
set_option maxRecDepth 100000 in
theorem wJ_X12_setClause {T : zT} {k0 : Nat} {x1 : Int32} {S S0 : zS} {a b : Nat}  (hS : S.2 a b = S0.2 a b) : zwl (fX12_setClause T k0 x1 S) (fun q0 => q0.2.2 a b = S0.2 a b) := by
  unfold fX12_setClause
  refine zwl_b (wJ_X12_letter  hS) (fun r1 S3 e1 => ?_)
  refine zwl_i ?_ ?_
  · refine zwl_b (wJ_X12_fails  e1) (fun r2 S43 e3 => ?_)
    exact (wJ_X12_setClause_e21  e3)
  · exact (wJ_X12_setClause_e21  e1)
set_option maxHeartbeats 40000 in
set_option maxRecDepth 100000 in
theorem wJ_X12_ruleClause_b71 {T : zT} {k0 : Nat} {x2 : Int32} {S S0 : zS} {a b : Nat}  (hS : S.2 a b = S0.2 a b) : zwl (fX12_ruleClause_b71 T k0 x2 S) (fun q0 => q0.2.2 a b = S0.2 a b) := by
  unfold fX12_ruleClause_b71
  refine zwl_b (wJ_X12_fails  hS) (fun r1 S15 e2 => ?_)
  exact zwl_r e2
set_option maxHeartbeats 40000 in
set_option maxRecDepth 100000 in
theorem wJ_X12_ruleClause_b164 {T : zT} {k0 : Nat} {x4 : Int32} {S S0 : zS} {a b : Nat}  (hS : S.2 a b = S0.2 a b) : zwl (fX12_ruleClause_b164 T k0 x4 S) (fun q0 => q0.2.2 a b = S0.2 a b) := by
  unfold fX12_ruleClause_b164
  refine zwl_g ?_
  refine zwl_sJn hS (fun S31 e1 => ?_)
  exact zwl_r e1
set_option maxHeartbeats 40000 in
set_option maxRecDepth 100000 in
theorem wJ_X12_ruleClause_b145 {T : zT} {k0 : Nat} {x3 : Int32} {x4 : Int32} {S S0 : zS} {a b : Nat}  (hS : S.2 a b = S0.2 a b) : zwl (fX12_ruleClause_b145 T k0 x3 x4 S) (fun q0 => q0.2.2 a b = S0.2 a b) := by
  unfold fX12_ruleClause_b145
  refine zwl_g ?_
  refine zwl_sJn hS (fun S28 e1 => ?_)
  refine zwl_i ?_ ?_
  · refine zwl_b (wJ_X12_ifTest  e1) (fun r2 S34 e3 => ?_)
    exact (wJ_X12_ruleClause_b164  e3)
  · exact (wJ_X12_ruleClause_b164  e1)
set_option maxHeartbeats 40000 in
set_option maxRecDepth 100000 in
theorem wJ_X12_ruleClause_b78 {T : zT} {k0 : Nat} {x1 : Int32} {x3 : Int32} {S S0 : zS} {a b : Nat}  (hS : S.2 a b = S0.2 a b) : zwl (fX12_ruleClause_b78 T k0 x1 x3 S) (fun q0 => q0.2.2 a b = S0.2 a b) := by
  unfold fX12_ruleClause_b78
  refine zwl_sJn hS (fun S17 e1 => ?_)
  refine zwl_v (fun u18 => ?_)
  refine zwl_g ?_
  refine zwl_sJn e1 (fun S20 e2 => ?_)
  refine zwl_g ?_
  refine zwl_sJn e2 (fun S22 e3 => ?_)
  refine zwl_i ?_ ?_
  · refine zwl_b (wJ_X12_amount  e3) (fun r35 S37 e4 => ?_)
    refine zwl_g ?_
    refine zwl_sJn e4 (fun S39 e5 => ?_)
    exact (wJ_X12_ruleClause_b145  e5)
  · refine zwl_b (wJ_X12_sum  e3) (fun r6 S26 e7 => ?_)
    exact (wJ_X12_ruleClause_b145  e7)
set_option maxHeartbeats 40000 in
set_option maxRecDepth 100000 in
theorem wJ_X12_ruleClause_b38 {T : zT} {k0 : Nat} {x1 : Int32} {x2 : Int32} {s0 : Int32} {S S0 : zS} {a b : Nat}  (hS : S.2 a b = S0.2 a b) : zwl (fX12_ruleClause_b38 T k0 x1 x2 s0 S) (fun q0 => q0.2.2 a b = S0.2 a b) := by
  unfold fX12_ruleClause_b38
  refine zwl_i ?_ ?_
  · refine zwl_b (wJ_X12_fails  hS) (fun r1 S45 e2 => ?_)
    exact zwl_r e2
  · refine zwl_i ?_ ?_
    · exact (wJ_X12_ruleClause_b71  hS)
    · refine zwl_i ?_ ?_
      · refine zwl_t (fun r40 => ?_)
        refine zwl_i ?_ ?_
        · exact (wJ_X12_ruleClause_b78  hS)
        · exact (wJ_X12_ruleClause_b71  hS)
      · exact (wJ_X12_ruleClause_b78  hS)
set_option maxHeartbeats 40000 in
set_option maxRecDepth 100000 in
theorem wJ_X12_ruleClause {T : zT} {k0 : Nat} {x1 : Int32} {S S0 : zS} {a b : Nat}  (hS : S.2 a b = S0.2 a b) : zwl (fX12_ruleClause T k0 x1 S) (fun q0 => q0.2.2 a b = S0.2 a b) := by
  unfold fX12_ruleClause
  refine zwl_b (wJ_X12_blanks  hS) (fun r1 S3 e2 => ?_)
  refine zwl_v (fun u4 => ?_)
  refine zwl_t (fun r5 => ?_)
  refine zwl_i ?_ ?_
  · refine zwl_t (fun r8 => ?_)
    refine zwl_i ?_ ?_
    · exact (wJ_X12_ruleClause_b38  e2)
    · exact (wJ_X12_ruleClause_b38  e2)
  · exact (wJ_X12_ruleClause_b38  e2)
set_option maxHeartbeats 40000 in
set_option maxRecDepth 100000 in
theorem wJ_X12_bookClause_b67 {T : zT} {k0 : Nat} {x2 : Int32} {S S0 : zS} {a b : Nat}  (hS : S.2 a b = S0.2 a b) : zwl (fX12_bookClause_b67 T k0 x2 S) (fun q0 => q0.2.2 a b = S0.2 a b) := by
  unfold fX12_bookClause_b67
  refine zwl_b (wJ_X12_fails  hS) (fun r1 S17 e2 => ?_)
  exact zwl_r e2
set_option maxHeartbeats 40000 in
set_option maxRecDepth 100000 in
theorem wJ_X12_bookClause_b177 {T : zT} {k0 : Nat} {x4 : Int32} {S S0 : zS} {a b : Nat}  (hS : S.2 a b = S0.2 a b) : zwl (fX12_bookClause_b177 T k0 x4 S) (fun q0 => q0.2.2 a b = S0.2 a b) := by
  unfold fX12_bookClause_b177
  refine zwl_g ?_
  refine zwl_sJn hS (fun S34 e1 => ?_)
  exact zwl_r e1
set_option maxHeartbeats 40000 in
set_option maxRecDepth 100000 in
theorem wJ_X12_bookClause_b74 {T : zT} {k0 : Nat} {x1 : Int32} {x3 : Int32} {S S0 : zS} {a b : Nat}  (hS : S.2 a b = S0.2 a b) : zwl (fX12_bookClause_b74 T k0 x1 x3 S) (fun q0 => q0.2.2 a b = S0.2 a b) := by
  unfold fX12_bookClause_b74
  refine zwl_t (fun r19 => ?_)
  refine zwl_sJn hS (fun S21 e1 => ?_)
  refine zwl_v (fun u22 => ?_)
  refine zwl_g ?_
  refine zwl_sJn e1 (fun S24 e2 => ?_)
  refine zwl_g ?_
  refine zwl_sJn e2 (fun S26 e3 => ?_)
  refine zwl_i ?_ ?_
  · refine zwl_b (wJ_X12_thingClause  e3) (fun r4 S48 e5 => ?_)
    exact (wJ_X12_bookClause_b177  e5)
  · refine zwl_i ?_ ?_
    · refine zwl_b (wJ_X12_setClause  e3) (fun r6 S45 e7 => ?_)
      exact (wJ_X12_bookClause_b177  e7)
    · refine zwl_i ?_ ?_
      · refine zwl_b (wJ_X12_amount  e3) (fun r35 S37 e8 => ?_)
        refine zwl_g ?_
        refine zwl_sJn e8 (fun S39 e9 => ?_)
        refine zwl_b (wJ_X12_ifTest  e9) (fun r10 S42 e11 => ?_)
        exact (wJ_X12_bookClause_b177  e11)
      · refine zwl_b (wJ_X12_onceClause  e3) (fun r12 S32 e13 => ?_)
        exact (wJ_X12_bookClause_b177  e13)
set_option maxHeartbeats 40000 in
set_option maxRecDepth 100000 in
theorem wJ_X12_bookClause_b34 {T : zT} {k0 : Nat} {x1 : Int32} {x2 : Int32} {x3 : Int32} {S S0 : zS} {a b : Nat}  (hS : S.2 a b = S0.2 a b) : zwl (fX12_bookClause_b34 T k0 x1 x2 x3 S) (fun q0 => q0.2.2 a b = S0.2 a b) := by
  unfold fX12_bookClause_b34
  refine zwl_i ?_ ?_
  · refine zwl_b (wJ_X12_fails  hS) (fun r1 S54 e2 => ?_)
    exact zwl_r e2
  · refine zwl_i ?_ ?_
    · exact (wJ_X12_bookClause_b67  hS)
    · refine zwl_i ?_ ?_
      · exact (wJ_X12_bookClause_b74  hS)
      · refine zwl_t (fun r49 => ?_)
        refine zwl_i ?_ ?_
        · exact (wJ_X12_bookClause_b74  hS)
        · exact (wJ_X12_bookClause_b67  hS)
set_option maxHeartbeats 40000 in
set_option maxRecDepth 100000 in
theorem wJ_X12_bookClause {T : zT} {k0 : Nat} {x1 : Int32} {S S0 : zS} {a b : Nat}  (hS : S.2 a b = S0.2 a b) : zwl (fX12_bookClause T k0 x1 S) (fun q0 => q0.2.2 a b = S0.2 a b) := by
  unfold fX12_bookClause
  refine zwl_b (wJ_X12_blanks  hS) (fun r1 S3 e2 => ?_)
  refine zwl_v (fun u4 => ?_)
  refine zwl_t (fun e12 => ?_)
  exact (wJ_X12_bookClause_b34  e2)
set_option maxHeartbeats 40000 in
set_option maxRecDepth 100000 in
theorem wJ_X12_reads_b138 {T : zT} {k0 : Nat} {x1 : Int32} {s0 : Int32} {S S0 : zS} {a b : Nat}  (hS : S.2 a b = S0.2 a b) : zwl (fX12_reads_b138 T k0 x1 s0 S) (Sum.elim (fun q1 => q1.2.2.2 a b = S0.2 a b) (fun q1 => q1.2.2 a b = S0.2 a b)) := by
  unfold fX12_reads_b138
  refine zwl_sJn hS (fun S19 e1 => ?_)
  exact zwl_r e1
set_option maxHeartbeats 40000 in
set_option maxRecDepth 100000 in
theorem wJ_X12_reads_b137 {T : zT} {k0 : Nat} {x1 : Int32} {S S0 : zS} {a b : Nat}  (hS : S.2 a b = S0.2 a b) : zwl (fX12_reads_b137 T k0 x1 S) (Sum.elim (fun q1 => q1.2.2.2 a b = S0.2 a b) (fun q1 => q1.2.2 a b = S0.2 a b)) := by
  unfold fX12_reads_b137
  exact (wJ_X12_reads_b138  hS)
set_option maxHeartbeats 40000 in
set_option maxRecDepth 100000 in
theorem wJ_X12_reads_b115 {T : zT} {k0 : Nat} {x1 : Int32} {S S0 : zS} {a b : Nat}  (hS : S.2 a b = S0.2 a b) : zwl (fX12_reads_b115 T k0 x1 S) (Sum.elim (fun q1 => q1.2.2.2 a b = S0.2 a b) (fun q1 => q1.2.2 a b = S0.2 a b)) := by
  unfold fX12_reads_b115
  refine zwl_i ?_ ?_
  · refine zwl_i ?_ ?_
    · exact (wJ_X12_reads_b137  hS)
    · exact (wJ_X12_reads_b138  hS)
  · exact (wJ_X12_reads_b137  hS)
set_option maxHeartbeats 40000 in
set_option maxRecDepth 100000 in
theorem wJ_X12_reads_b72 {T : zT} {k0 : Nat} {x1 : Int32} {S S0 : zS} {a b : Nat}  (hS : S.2 a b = S0.2 a b) : zwl (fX12_reads_b72 T k0 x1 S) (Sum.elim (fun q1 => q1.2.2.2 a b = S0.2 a b) (fun q1 => q1.2.2 a b = S0.2 a b)) := by
  unfold fX12_reads_b72
  refine zwl_v (fun u13 => ?_)
  refine zwl_b (wJ_X12_blanks  hS) (fun r1 S16 e2 => ?_)
  refine zwl_i ?_ ?_
  · refine zwl_i ?_ ?_
    · exact (wJ_X12_reads_b115  e2)
    · refine zwl_t (fun r22 => ?_)
      refine zwl_i ?_ ?_
      · exact (wJ_X12_reads_b115  e2)
      · refine zwl_b (wJ_X12_fails  e2) (fun r3 S27 e4 => ?_)
        exact (wJ_X12_reads_b115  e4)
  · exact (wJ_X12_reads_b115  e2)
set_option maxHeartbeats 40000 in
set_option maxRecDepth 100000 in
theorem wJ_X12_reads_l47 {T : zT} {k0 : Nat} {x1 : Int32} {x2 : Int32} {S S0 : zS} {a b : Nat}  (hS : S.2 a b = S0.2 a b) : zwl (fX12_reads_l47 T k0 x1 x2 S) (Sum.elim (fun q1 => q1.2.2.2 a b = S0.2 a b) (fun q1 => q1.2.2 a b = S0.2 a b)) := by
  unfold fX12_reads_l47
  refine zwl_i ?_ ?_
  · exact zwl_r hS
  · refine zwl_i ?_ ?_
    · refine zwl_b (wJ_X12_bookClause  hS) (fun r1 S12 e2 => ?_)
      exact (wJ_X12_reads_b72  e2)
    · refine zwl_b (wJ_X12_ruleClause  hS) (fun r3 S30 e4 => ?_)
      exact (wJ_X12_reads_b72  e4)
set_option maxHeartbeats 40000 in
set_option maxRecDepth 100000 in
theorem wJ_X12_reads_b40 {T : zT} {k0 : Nat} {s0 : Int32} {s1 : Nat} {S S0 : zS} {a b : Nat}  (hS : S.2 a b = S0.2 a b) : zwl (fX12_reads_b40 T k0 s0 s1 S) (fun q0 => q0.2.2 a b = S0.2 a b) := by
  unfold fX12_reads_b40
  refine zwl_sJn hS (fun S7 e1 => ?_)
  refine zwl_b1 (zwl_lp (I := (fun q0 => q0.2.2.2 a b = S0.2 a b)) (Q := (fun q0 => q0.2.2 a b = S0.2 a b)) (fun a e4 => (wJ_X12_reads_l47  e4)) e1) (fun e31 e2 => ?_)
  refine zwl_sJn e2 (fun S32 e5 => ?_)
  refine zwl_g ?_
  refine zwl_sJn e5 (fun S34 e6 => ?_)
  exact zwl_r e6
set_option maxHeartbeats 40000 in
set_option maxRecDepth 100000 in
theorem wJ_X12_reads {T : zT} {k0 : Nat} {S S0 : zS} {a b : Nat}  (hS : S.2 a b = S0.2 a b) : zwl (fX12_reads T k0 S) (fun q0 => q0.2.2 a b = S0.2 a b) := by
  unfold fX12_reads
  refine zwl_sJn hS (fun S1 e1 => ?_)
  refine zwl_sJn e1 (fun S2 e2 => ?_)
  refine zwl_sJn e2 (fun S3 e3 => ?_)
  refine zwl_sJn e3 (fun S4 e4 => ?_)
  refine zwl_sJn e4 (fun S5 e5 => ?_)
  refine zwl_i ?_ ?_
  · exact (wJ_X12_reads_b40  e5)
  · exact (wJ_X12_reads_b40  e5)
set_option maxHeartbeats 40000 in
set_option maxRecDepth 100000 in
theorem wJ_X12_book {T : zT} {k0 : Nat} {S S0 : zS} {a b : Nat}  (hS : S.2 a b = S0.2 a b) : zwl (fX12_book T k0 S) (fun q0 => q0.2.2 a b = S0.2 a b) := by
  unfold fX12_book
  refine zwl_sJn hS (fun S1 e1 => ?_)
  refine zwl_b (wJ_X12_clears  e1) (fun r2 S4 e3 => ?_)
  refine zwl_b (wJ_X12_reads  e3) (fun r5 S7 e4 => ?_)
  refine zwl_i ?_ ?_
  · refine zwl_b (wJ_X12_over  e4) (fun r5 S11 e6 => ?_)
    refine zwl_b (wJ_X12_over  e6) (fun r7 S14 e8 => ?_)
    refine zwl_b (wJ_X12_over  e8) (fun r9 S17 e10 => ?_)
    refine zwl_b (wJ_X12_over  e10) (fun r11 S20 e12 => ?_)
    refine zwl_b (wJ_X12_over  e12) (fun r13 S23 e14 => ?_)
    refine zwl_b (wJ_X12_over  e14) (fun r15 S26 e16 => ?_)
    refine zwl_b (wJ_X12_over  e16) (fun r17 S29 e18 => ?_)
    refine zwl_b (wJ_X12_over  e18) (fun r19 S32 e20 => ?_)
    refine zwl_b (wJ_X12_over  e20) (fun r21 S35 e22 => ?_)
    refine zwl_b (wJ_X12_over  e22) (fun r23 S38 e24 => ?_)
    refine zwl_b (wJ_X12_over  e24) (fun r25 S41 e26 => ?_)
    refine zwl_b (wJ_X12_over  e26) (fun r27 S44 e28 => ?_)
    refine zwl_b (wJ_X12_over  e28) (fun r29 S47 e30 => ?_)
    refine zwl_b (wJ_X12_over  e30) (fun r31 S50 e32 => ?_)
    refine zwl_b (wJ_X12_over  e32) (fun r33 S53 e34 => ?_)
    refine zwl_b (wJ_X12_over  e34) (fun r35 S56 e36 => ?_)
    refine zwl_b (wJ_X12_over  e36) (fun r37 S59 e38 => ?_)
    refine zwl_b (wJ_X12_over  e38) (fun r39 S62 e40 => ?_)
    refine zwl_b (wJ_X12_over  e40) (fun r41 S65 e42 => ?_)
    refine zwl_b (wJ_X12_over  e42) (fun r43 S68 e44 => ?_)
    refine zwl_sJn e44 (fun S69 e45 => ?_)
    refine zwl_t (fun r70 => ?_)
    refine zwl_t (fun r72 => ?_)
    exact zwl_r e45
  · exact zwl_r e4
set_option maxHeartbeats 40000 in
set_option maxRecDepth 100000 in
theorem wJ_X12_rule_b61 {T : zT} {s0 : Int32} {S S0 : zS} {a b : Nat}  (hS : S.2 a b = S0.2 a b) : zwl (fX12_rule_b61 T s0 S) (fun q0 => q0.2.2 a b = S0.2 a b) := by
  unfold fX12_rule_b61
  exact zwl_r hS
set_option maxHeartbeats 40000 in
set_option maxRecDepth 100000 in
theorem wJ_X12_rule_b40 {T : zT} {k0 : Nat} {x1 : Int32} {s0 : Int32} {s1 : Int32} {s2 : Nat} {S S0 : zS} {a b : Nat}  (hS : S.2 a b = S0.2 a b) : zwl (fX12_rule_b40 T k0 x1 s0 s1 s2 S) (fun q0 => q0.2.2 a b = S0.2 a b) := by
  unfold fX12_rule_b40
  refine zwl_sJn hS (fun S7 e1 => ?_)
  refine zwl_i ?_ ?_
  · exact (wJ_X12_rule_b61  e1)
  · exact (wJ_X12_rule_b61  e1)
set_option maxHeartbeats 40000 in
set_option maxRecDepth 100000 in
theorem wJ_X12_rule {T : zT} {k0 : Nat} {S S0 : zS} {a b : Nat}  (hS : S.2 a b = S0.2 a b) : zwl (fX12_rule T k0 S) (fun q0 => q0.2.2 a b = S0.2 a b) := by
  unfold fX12_rule
  refine zwl_i ?_ ?_
  · exact zwl_r hS
  · refine zwl_sJn hS (fun S2 e1 => ?_)
    refine zwl_b (wJ_X12_reads  e1) (fun r3 S5 e2 => ?_)
    refine zwl_i ?_ ?_
    · exact (wJ_X12_rule_b40  e2)
    · exact (wJ_X12_rule_b40  e2)
set_option maxHeartbeats 40000 in
set_option maxRecDepth 100000 in
theorem wJ_X6_readTestB_b37 {T : zT} {rc : Nat → zT → Nat → Int32 → zS → Option (Unit × zS)} {k0 : Nat} {x1 : Int32} {x2 : Int32} {x3 : Int32} {S S0 : zS} {a b : Nat} (hrc : ∀ (w : Nat) (x : Int32) (S : zS), S.2 a b = S0.2 a b → zwl (rc w T k0 x S) (fun q0 => q0.2.2 a b = S0.2 a b))  (hS : S.2 a b = S0.2 a b) : zwl (fX6_readTestB_b37 T rc k0 x1 x2 x3 S) (Sum.elim (fun q1 => q1.2.2 a b = S0.2 a b) (Sum.elim (fun q2 => q2.2 a b = S0.2 a b) (fun q2 => q2.2 a b = S0.2 a b))) := by
  unfold fX6_readTestB_b37
  refine zwl_i ?_ ?_
  · refine zwl_i ?_ ?_
    · refine zwl_b (wJ_X6_next  hS) (fun r1 S11 e2 => ?_)
      refine zwl_v (fun u12 => ?_)
      exact zwl_r e2
    · exact zwl_r hS
  · exact zwl_r hS
set_option maxHeartbeats 40000 in
set_option maxRecDepth 100000 in
theorem wJ_X6_readTestB_l11 {T : zT} {rc : Nat → zT → Nat → Int32 → zS → Option (Unit × zS)} {k0 : Nat} {x1 : Int32} {x2 : Int32} {x3 : Int32} {S S0 : zS} {a b : Nat} (hrc : ∀ (w : Nat) (x : Int32) (S : zS), S.2 a b = S0.2 a b → zwl (rc w T k0 x S) (fun q0 => q0.2.2 a b = S0.2 a b))  (hS : S.2 a b = S0.2 a b) : zwl (fX6_readTestB_l11 T rc k0 x1 x2 x3 S) (Sum.elim (fun q1 => q1.2.2 a b = S0.2 a b) (Sum.elim (fun q2 => q2.2 a b = S0.2 a b) (fun q2 => q2.2 a b = S0.2 a b))) := by
  unfold fX6_readTestB_l11
  refine zwl_i ?_ ?_
  · exact zwl_r hS
  · refine zwl_b (hrc _ _ _ hS) (fun r1 S5 e2 => ?_)
    refine zwl_i ?_ ?_
    · exact (wJ_X6_readTestB_b37 hrc  e2)
    · refine zwl_b (wJ_X2_add  e2) (fun r3 S15 e4 => ?_)
      exact (wJ_X6_readTestB_b37 hrc  e4)
set_option maxHeartbeats 40000 in
set_option maxRecDepth 100000 in
theorem wJ_X6_readTestB_b80 {T : zT} {rc : Nat → zT → Nat → Int32 → zS → Option (Unit × zS)} {k0 : Nat} {x1 : Int32} {x2 : Int32} {S S0 : zS} {a b : Nat} (hrc : ∀ (w : Nat) (x : Int32) (S : zS), S.2 a b = S0.2 a b → zwl (rc w T k0 x S) (fun q0 => q0.2.2 a b = S0.2 a b))  (hS : S.2 a b = S0.2 a b) : zwl (fX6_readTestB_b80 T rc k0 x1 x2 S) (Sum.elim (fun q1 => q1.2.2 a b = S0.2 a b) (Sum.elim (fun q2 => q2.2 a b = S0.2 a b) (fun q2 => q2.2 a b = S0.2 a b))) := by
  unfold fX6_readTestB_b80
  refine zwl_i ?_ ?_
  · refine zwl_i ?_ ?_
    · refine zwl_b (wJ_X6_next  hS) (fun r1 S22 e2 => ?_)
      refine zwl_v (fun u23 => ?_)
      exact zwl_r e2
    · exact zwl_r hS
  · exact zwl_r hS
set_option maxHeartbeats 40000 in
set_option maxRecDepth 100000 in
theorem wJ_X6_readTestB_b66 {T : zT} {rc : Nat → zT → Nat → Int32 → zS → Option (Unit × zS)} {k0 : Nat} {x1 : Int32} {x2 : Int32} {S S0 : zS} {a b : Nat} (hrc : ∀ (w : Nat) (x : Int32) (S : zS), S.2 a b = S0.2 a b → zwl (rc w T k0 x S) (fun q0 => q0.2.2 a b = S0.2 a b))  (hS : S.2 a b = S0.2 a b) : zwl (fX6_readTestB_b66 T rc k0 x1 x2 S) (Sum.elim (fun q1 => q1.2.2 a b = S0.2 a b) (Sum.elim (fun q2 => q2.2 a b = S0.2 a b) (fun q2 => q2.2 a b = S0.2 a b))) := by
  unfold fX6_readTestB_b66
  refine zwl_i ?_ ?_
  · exact (wJ_X6_readTestB_b80 hrc  hS)
  · refine zwl_b (wJ_X2_add  hS) (fun r1 S26 e2 => ?_)
    exact (wJ_X6_readTestB_b80 hrc  e2)
set_option maxHeartbeats 40000 in
set_option maxRecDepth 100000 in
theorem wJ_X6_readTestB_l2 {T : zT} {rc : Nat → zT → Nat → Int32 → zS → Option (Unit × zS)} {k0 : Nat} {x1 : Int32} {x2 : Int32} {S S0 : zS} {a b : Nat} (hrc : ∀ (w : Nat) (x : Int32) (S : zS), S.2 a b = S0.2 a b → zwl (rc w T k0 x S) (fun q0 => q0.2.2 a b = S0.2 a b))  (hS : S.2 a b = S0.2 a b) : zwl (fX6_readTestB_l2 T rc k0 x1 x2 S) (Sum.elim (fun q1 => q1.2.2 a b = S0.2 a b) (Sum.elim (fun q2 => q2.2 a b = S0.2 a b) (fun q2 => q2.2 a b = S0.2 a b))) := by
  unfold fX6_readTestB_l2
  refine zwl_i ?_ ?_
  · exact zwl_r hS
  · refine zwl_b1 (zwl_lp (I := (fun q0 => q0.2.2 a b = S0.2 a b)) (Q := (Sum.elim (fun q1 => q1.2 a b = S0.2 a b) (fun q1 => q1.2 a b = S0.2 a b))) (fun a e3 => (wJ_X6_readTestB_l11 hrc  e3)) hS) (fun e16 e1 => ?_)
    refine zwl_m e1 (fun e16_0 e4 => ?_) (fun e16_1 e5 => ?_)
    · exact (wJ_X6_readTestB_b66 hrc  e4)
    · exact (wJ_X6_readTestB_b66 hrc  e5)
set_option maxHeartbeats 40000 in
set_option maxRecDepth 100000 in
theorem wJ_X6_readTestB_b96 {T : zT} {rc : Nat → zT → Nat → Int32 → zS → Option (Unit × zS)} {k0 : Nat} {S S0 : zS} {a b : Nat} (hrc : ∀ (w : Nat) (x : Int32) (S : zS), S.2 a b = S0.2 a b → zwl (rc w T k0 x S) (fun q0 => q0.2.2 a b = S0.2 a b))  (hS : S.2 a b = S0.2 a b) : zwl (fX6_readTestB_b96 T rc S) (fun q0 => q0.2.2 a b = S0.2 a b) := by
  unfold fX6_readTestB_b96
  exact zwl_r hS
set_option maxHeartbeats 40000 in
set_option maxRecDepth 100000 in
theorem wJ_X6_readTestB {T : zT} {rc : Nat → zT → Nat → Int32 → zS → Option (Unit × zS)} {k0 : Nat} {x1 : Int32} {S S0 : zS} {a b : Nat} (hrc : ∀ (w : Nat) (x : Int32) (S : zS), S.2 a b = S0.2 a b → zwl (rc w T k0 x S) (fun q0 => q0.2.2 a b = S0.2 a b))  (hS : S.2 a b = S0.2 a b) : zwl (fX6_readTestB T rc k0 x1 S) (fun q0 => q0.2.2 a b = S0.2 a b) := by
  unfold fX6_readTestB
  refine zwl_b1 (zwl_lp (I := (fun q0 => q0.2.2 a b = S0.2 a b)) (Q := (Sum.elim (fun q1 => q1.2 a b = S0.2 a b) (fun q1 => q1.2 a b = S0.2 a b))) (fun a e3 => (wJ_X6_readTestB_l2 hrc  e3)) hS) (fun e29 e1 => ?_)
  refine zwl_m e1 (fun e29_0 e4 => ?_) (fun e29_1 e5 => ?_)
  · exact zwl_r e4
  · exact (wJ_X6_readTestB_b96 hrc  e5)
set_option maxHeartbeats 40000 in
set_option maxRecDepth 100000 in
theorem wJ_X6_readFactB_b104 {T : zT} {rc : Nat → zT → Nat → Int32 → zS → Option (Unit × zS)} {k0 : Nat} {S S0 : zS} {a b : Nat} (hrc : ∀ (w : Nat) (x : Int32) (S : zS), S.2 a b = S0.2 a b → zwl (rc w T k0 x S) (fun q0 => q0.2.2 a b = S0.2 a b))  (hS : S.2 a b = S0.2 a b) : zwl (fX6_readFactB_b104 T rc S) (fun q0 => q0.2.2 a b = S0.2 a b) := by
  unfold fX6_readFactB_b104
  exact zwl_r hS
set_option maxHeartbeats 40000 in
set_option maxRecDepth 100000 in
theorem wJ_X6_readFactB_b51 {T : zT} {rc : Nat → zT → Nat → Int32 → zS → Option (Unit × zS)} {k0 : Nat} {x1 : Int32} {x2 : Int32} {S S0 : zS} {a b : Nat} (hrc : ∀ (w : Nat) (x : Int32) (S : zS), S.2 a b = S0.2 a b → zwl (rc w T k0 x S) (fun q0 => q0.2.2 a b = S0.2 a b))  (hS : S.2 a b = S0.2 a b) : zwl (fX6_readFactB_b51 T rc k0 x1 x2 S) (fun q0 => q0.2.2 a b = S0.2 a b) := by
  unfold fX6_readFactB_b51
  refine zwl_i ?_ ?_
  · refine zwl_b (wJ_X6_next  hS) (fun r1 S6 e2 => ?_)
    refine zwl_i ?_ ?_
    · refine zwl_b (hrc _ _ _ e2) (fun r3 S10 e4 => ?_)
      refine zwl_b (wJ_X6_expect  e4) (fun r5 S13 e6 => ?_)
      exact (wJ_X6_readFactB_b104 hrc  e6)
    · refine zwl_b (hrc _ _ _ e2) (fun r7 S16 e8 => ?_)
      refine zwl_b (wJ_X2_add  e8) (fun r9 S19 e10 => ?_)
      exact (wJ_X6_readFactB_b104 hrc  e10)
  · refine zwl_b (wJ_X6_fail  hS) (fun r11 S22 e12 => ?_)
    exact zwl_r e12
set_option maxHeartbeats 40000 in
set_option maxRecDepth 100000 in
theorem wJ_X6_readFactB_b14 {T : zT} {rc : Nat → zT → Nat → Int32 → zS → Option (Unit × zS)} {k0 : Nat} {x1 : Int32} {s0 : Int32} {S S0 : zS} {a b : Nat} (hrc : ∀ (w : Nat) (x : Int32) (S : zS), S.2 a b = S0.2 a b → zwl (rc w T k0 x S) (fun q0 => q0.2.2 a b = S0.2 a b))  (hS : S.2 a b = S0.2 a b) : zwl (fX6_readFactB_b14 T rc k0 x1 s0 S) (fun q0 => q0.2.2 a b = S0.2 a b) := by
  unfold fX6_readFactB_b14
  refine zwl_i ?_ ?_
  · refine zwl_i ?_ ?_
    · exact (wJ_X6_readFactB_b51 hrc  hS)
    · refine zwl_b (wJ_X6_readSum  hS) (fun r1 S26 e2 => ?_)
      refine zwl_b (wJ_X6_readSign  e2) (fun r27 S29 e3 => ?_)
      refine zwl_b (wJ_X6_readSum  e3) (fun r4 S32 e5 => ?_)
      refine zwl_b (wJ_X2_add  e5) (fun r6 S35 e7 => ?_)
      exact zwl_r e7
  · exact (wJ_X6_readFactB_b51 hrc  hS)
set_option maxHeartbeats 40000 in
set_option maxRecDepth 100000 in
theorem wJ_X6_readFactB {T : zT} {rc : Nat → zT → Nat → Int32 → zS → Option (Unit × zS)} {k0 : Nat} {x1 : Int32} {S S0 : zS} {a b : Nat} (hrc : ∀ (w : Nat) (x : Int32) (S : zS), S.2 a b = S0.2 a b → zwl (rc w T k0 x S) (fun q0 => q0.2.2 a b = S0.2 a b))  (hS : S.2 a b = S0.2 a b) : zwl (fX6_readFactB T rc k0 x1 S) (fun q0 => q0.2.2 a b = S0.2 a b) := by
  unfold fX6_readFactB
  refine zwl_i ?_ ?_
  · exact (wJ_X6_readFactB_b14 hrc  hS)
  · exact (wJ_X6_readFactB_b14 hrc  hS)
set_option maxHeartbeats 40000 in
set_option maxRecDepth 100000 in
theorem wJ_X6_readIf_b15 {T : zT} {S S0 : zS} {a b : Nat}  (hS : S.2 a b = S0.2 a b) : zwl (fX6_readIf_b15 T S) (fun q0 => q0.2.2 a b = S0.2 a b) := by
  unfold fX6_readIf_b15
  exact zwl_r hS
theorem wJ_X6_rec {T : zT} {k0 : Nat} {S0 : zS} {a b : Nat}  : ∀ (n w : Nat) (x : Int32) (S : zS), S.2 a b = S0.2 a b → zwl (fX6_rec n w T k0 x S) (fun q0 => q0.2.2 a b = S0.2 a b) := by
  intro n
  induction n with
  | zero => intro w x S hS b e; cases e
  | succ n ih =>
    intro w x S hS
    unfold fX6_rec
    exact zwl_i (wJ_X6_readFactB (rc := fX6_rec n) (fun w x S hS => ih w x S hS)  hS) (wJ_X6_readTestB (rc := fX6_rec n) (fun w x S hS => ih w x S hS)  hS)
theorem wJ_X6_readTest {T : zT} {k0 : Nat} {x1 : Int32} {S S0 : zS} {a b : Nat}  (hS : S.2 a b = S0.2 a b) : zwl (fX6_readTest T k0 x1 S) (fun q0 => q0.2.2 a b = S0.2 a b) := wJ_X6_rec  40 1 x1 S hS
theorem wJ_X6_readFact {T : zT} {k0 : Nat} {x1 : Int32} {S S0 : zS} {a b : Nat}  (hS : S.2 a b = S0.2 a b) : zwl (fX6_readFact T k0 x1 S) (fun q0 => q0.2.2 a b = S0.2 a b) := wJ_X6_rec  40 0 x1 S hS

set_option maxHeartbeats 40000 in
set_option maxRecDepth 100000 in
theorem wJ_X6_readIf {T : zT} {k0 : Nat} {S S0 : zS} {a b : Nat}  (hS : S.2 a b = S0.2 a b) : zwl (fX6_readIf T k0 S) (fun q0 => q0.2.2 a b = S0.2 a b) := by
  unfold fX6_readIf
  refine zwl_i ?_ ?_
  · refine zwl_i ?_ ?_
    · refine zwl_b (wJ_X6_next  hS) (fun r1 S5 e2 => ?_)
      refine zwl_v (fun u6 => ?_)
      refine zwl_b (wJ_X6_readTest  e2) (fun r3 S9 e4 => ?_)
      refine zwl_b (wJ_X2_add  e4) (fun r5 S12 e6 => ?_)
      exact zwl_r e6
    · exact (wJ_X6_readIf_b15  hS)
  · exact (wJ_X6_readIf_b15  hS)
set_option maxHeartbeats 40000 in
set_option maxRecDepth 100000 in
theorem wJ_X6_readSet_l4 {T : zT} {k0 : Nat} {k1 : Nat} {x2 : Int32} {x3 : Int32} {S S0 : zS} {a b : Nat}  (hS : S.2 a b = S0.2 a b) : zwl (fX6_readSet_l4 T k0 k1 x2 x3 S) (Sum.elim (fun q1 => q1.2.2.2 a b = S0.2 a b) (Sum.elim (fun q2 => q2.2.2 a b = S0.2 a b) (fun q2 => q2.2 a b = S0.2 a b))) := by
  unfold fX6_readSet_l4
  refine zwl_i ?_ ?_
  · exact zwl_r hS
  · refine zwl_i ?_ ?_
    · refine zwl_i ?_ ?_
      · refine zwl_v (fun u4 => ?_)
        refine zwl_t (fun r5 => ?_)
        refine zwl_i ?_ ?_
        · exact zwl_r hS
        · refine zwl_i ?_ ?_
          · refine zwl_v (fun u9 => ?_)
            refine zwl_b (wJ_X6_next  hS) (fun r1 S12 e2 => ?_)
            refine zwl_v (fun u13 => ?_)
            exact zwl_r e2
          · exact zwl_r hS
      · exact zwl_r hS
    · exact zwl_r hS
set_option maxHeartbeats 40000 in
set_option maxRecDepth 100000 in
theorem wJ_X6_readSet_b74 {T : zT} {k0 : Nat} {k1 : Nat} {x2 : Int32} {S S0 : zS} {a b : Nat}  (hS : S.2 a b = S0.2 a b) : zwl (fX6_readSet_b74 T k0 k1 x2 S) (fun q0 => q0.2.2 a b = S0.2 a b) := by
  unfold fX6_readSet_b74
  refine zwl_i ?_ ?_
  · refine zwl_b (wJ_X6_fail  hS) (fun r1 S30 e2 => ?_)
    exact zwl_r e2
  · refine zwl_b (wJ_X6_expect  hS) (fun r3 S18 e4 => ?_)
    refine zwl_b (wJ_X6_number  e4) (fun r19 S21 e5 => ?_)
    refine zwl_b (wJ_X6_readIf  e5) (fun r22 S24 e6 => ?_)
    refine zwl_b (wJ_X1_add  e6) (fun r7 S27 e8 => ?_)
    exact zwl_r e8
set_option maxHeartbeats 40000 in
set_option maxRecDepth 100000 in
theorem wJ_X6_readSet_b51 {T : zT} {k0 : Nat} {S S0 : zS} {a b : Nat}  (hS : S.2 a b = S0.2 a b) : zwl (fX6_readSet_b51 T k0 S) (fun q0 => q0.2.2 a b = S0.2 a b) := by
  unfold fX6_readSet_b51
  refine zwl_b (wJ_X6_fail  hS) (fun r1 S33 e2 => ?_)
  exact zwl_r e2
set_option maxHeartbeats 40000 in
set_option maxRecDepth 100000 in
theorem wJ_X6_readSet {T : zT} {k0 : Nat} {k1 : Nat} {S S0 : zS} {a b : Nat}  (hS : S.2 a b = S0.2 a b) : zwl (fX6_readSet T k0 k1 S) (fun q0 => q0.2.2 a b = S0.2 a b) := by
  unfold fX6_readSet
  refine zwl_b1 (zwl_lp (I := (fun q0 => q0.2.2.2 a b = S0.2 a b)) (Q := (Sum.elim (fun q1 => q1.2.2 a b = S0.2 a b) (fun q1 => q1.2 a b = S0.2 a b))) (fun a e3 => (wJ_X6_readSet_l4  e3)) hS) (fun e14 e1 => ?_)
  refine zwl_m e1 (fun e14_0 e4 => ?_) (fun e14_1 e5 => ?_)
  · exact (wJ_X6_readSet_b74  e4)
  · exact (wJ_X6_readSet_b51  e5)
set_option maxHeartbeats 40000 in
set_option maxRecDepth 100000 in
theorem wJ_X6_readNeed {T : zT} {k0 : Nat} {k1 : Nat} {S S0 : zS} {a b : Nat}  (hS : S.2 a b = S0.2 a b) : zwl (fX6_readNeed T k0 k1 S) (fun q0 => q0.2.2 a b = S0.2 a b) := by
  unfold fX6_readNeed
  refine zwl_b (wJ_X6_number  hS) (fun r1 S3 e1 => ?_)
  refine zwl_b (wJ_X6_readIf  e1) (fun r4 S6 e2 => ?_)
  refine zwl_b (wJ_X1_add  e2) (fun r3 S9 e4 => ?_)
  exact zwl_r e4
set_option maxHeartbeats 40000 in
set_option maxRecDepth 100000 in
theorem wJ_X6_readLike {T : zT} {k0 : Nat} {k1 : Nat} {S S0 : zS} {a b : Nat}  (hS : S.2 a b = S0.2 a b) : zwl (fX6_readLike T k0 k1 S) (fun q0 => q0.2.2 a b = S0.2 a b) := by
  unfold fX6_readLike
  refine zwl_v (fun u1 => ?_)
  refine zwl_b (wJ_X6_readSum  hS) (fun r1 S4 e2 => ?_)
  refine zwl_b (wJ_X2_add  e2) (fun r3 S7 e4 => ?_)
  refine zwl_b (wJ_X6_readIf  e4) (fun r8 S10 e5 => ?_)
  refine zwl_b (wJ_X8_add  e5) (fun r6 S13 e7 => ?_)
  exact zwl_r e7
set_option maxHeartbeats 40000 in
set_option maxRecDepth 100000 in
theorem wJ_X6_readBook_b184 {T : zT} {k0 : Nat} {k3 : Nat} {x4 : Int32} {S S0 : zS} {a b : Nat}  (hS : S.2 a b = S0.2 a b) : zwl (fX6_readBook_b184 T k0 k3 x4 S) (Sum.elim (fun q1 => q1.2.2 a b = S0.2 a b) (Sum.elim (fun q2 => q2.2 a b = S0.2 a b) (fun q2 => q2.2 a b = S0.2 a b))) := by
  unfold fX6_readBook_b184
  refine zwl_b (wJ_X6_isAtEnd  hS) (fun r17 S19 e1 => ?_)
  refine zwl_i ?_ ?_
  · refine zwl_v (fun u21 => ?_)
    exact zwl_r e1
  · exact zwl_r e1
set_option maxHeartbeats 40000 in
set_option maxRecDepth 100000 in
theorem wJ_X6_readBook_b45 {T : zT} {k0 : Nat} {k3 : Nat} {x4 : Int32} {s0 : Int32} {s1 : Nat} {S S0 : zS} {a b : Nat}  (hS : S.2 a b = S0.2 a b) : zwl (fX6_readBook_b45 T k0 k3 x4 s0 s1 S) (Sum.elim (fun q1 => q1.2.2 a b = S0.2 a b) (Sum.elim (fun q2 => q2.2 a b = S0.2 a b) (fun q2 => q2.2 a b = S0.2 a b))) := by
  unfold fX6_readBook_b45
  refine zwl_b (wJ_X6_startClause  hS) (fun r10 S12 e1 => ?_)
  refine zwl_i ?_ ?_
  · refine zwl_b (wJ_X6_readThing  e1) (fun r2 S16 e3 => ?_)
    exact (wJ_X6_readBook_b184  e3)
  · refine zwl_i ?_ ?_
    · refine zwl_b (wJ_X6_readSet  e1) (fun r4 S25 e5 => ?_)
      exact (wJ_X6_readBook_b184  e5)
    · refine zwl_i ?_ ?_
      · exact (wJ_X6_readBook_b184  e1)
      · refine zwl_i ?_ ?_
        · exact (wJ_X6_readBook_b184  e1)
        · refine zwl_i ?_ ?_
          · refine zwl_b (wJ_X6_readNeed  e1) (fun r6 S31 e7 => ?_)
            exact (wJ_X6_readBook_b184  e7)
          · refine zwl_i ?_ ?_
            · refine zwl_b (wJ_X6_number  e1) (fun r33 S35 e8 => ?_)
              refine zwl_sJn e8 (fun S36 e9 => ?_)
              exact (wJ_X6_readBook_b184  e9)
            · refine zwl_i ?_ ?_
              · refine zwl_b (wJ_X6_readCousin  e1) (fun r10 S40 e11 => ?_)
                exact (wJ_X6_readBook_b184  e11)
              · refine zwl_i ?_ ?_
                · exact (wJ_X6_readBook_b184  e1)
                · refine zwl_i ?_ ?_
                  · refine zwl_b (wJ_X6_number  e1) (fun r43 S45 e12 => ?_)
                    refine zwl_sJn e12 (fun S46 e13 => ?_)
                    exact (wJ_X6_readBook_b184  e13)
                  · refine zwl_i ?_ ?_
                    · refine zwl_b (wJ_X6_number  e1) (fun r48 S50 e14 => ?_)
                      refine zwl_sJn e14 (fun S51 e15 => ?_)
                      exact (wJ_X6_readBook_b184  e15)
                    · exact (wJ_X6_readBook_b184  e1)
set_option maxHeartbeats 40000 in
set_option maxRecDepth 100000 in
theorem wJ_X6_readBook_l18 {T : zT} {k0 : Nat} {k3 : Nat} {x4 : Int32} {S S0 : zS} {a b : Nat}  (hS : S.2 a b = S0.2 a b) : zwl (fX6_readBook_l18 T k0 k3 x4 S) (Sum.elim (fun q1 => q1.2.2 a b = S0.2 a b) (Sum.elim (fun q2 => q2.2 a b = S0.2 a b) (fun q2 => q2.2 a b = S0.2 a b))) := by
  unfold fX6_readBook_l18
  refine zwl_i ?_ ?_
  · exact zwl_r hS
  · refine zwl_i ?_ ?_
    · refine zwl_i ?_ ?_
      · exact (wJ_X6_readBook_b45  hS)
      · exact (wJ_X6_readBook_b45  hS)
    · exact zwl_r hS
set_option maxHeartbeats 40000 in
set_option maxRecDepth 100000 in
theorem wJ_X6_readBook_b200 {T : zT} {k0 : Nat} {S S0 : zS} {a b : Nat}  (hS : S.2 a b = S0.2 a b) : zwl (fX6_readBook_b200 T k0 S) (fun q0 => q0.2.2 a b = S0.2 a b) := by
  unfold fX6_readBook_b200
  exact zwl_r hS
set_option maxHeartbeats 40000 in
set_option maxRecDepth 100000 in
theorem wJ_X6_readBook_b15 {T : zT} {k0 : Nat} {k3 : Nat} {S S0 : zS} {a b : Nat}  (hS : S.2 a b = S0.2 a b) : zwl (fX6_readBook_b15 T k0 k3 S) (fun q0 => q0.2.2 a b = S0.2 a b) := by
  unfold fX6_readBook_b15
  refine zwl_b1 (zwl_lp (I := (fun q0 => q0.2.2 a b = S0.2 a b)) (Q := (Sum.elim (fun q1 => q1.2 a b = S0.2 a b) (fun q1 => q1.2 a b = S0.2 a b))) (fun a e3 => (wJ_X6_readBook_l18  e3)) hS) (fun e52 e1 => ?_)
  refine zwl_m e1 (fun e52_0 e4 => ?_) (fun e52_1 e5 => ?_)
  · exact (wJ_X6_readBook_b200  e4)
  · exact (wJ_X6_readBook_b200  e5)
set_option maxHeartbeats 40000 in
set_option maxRecDepth 100000 in
theorem wJ_X6_readBook {T : zT} {k0 : Nat} {k1 : Nat} {n1 : Nat} {x2 : Int32} {k3 : Nat} {S S0 : zS} {a b : Nat}  (hS : S.2 a b = S0.2 a b) : zwl (fX6_readBook T k0 k1 n1 x2 k3 S) (fun q0 => q0.2.2 a b = S0.2 a b) := by
  unfold fX6_readBook
  refine zwl_b (wJ_X0_clear  hS) (fun r1 S3 e2 => ?_)
  refine zwl_b (wJ_X6_open  e2) (fun r3 S6 e4 => ?_)
  exact (wJ_X6_readBook_b15  e4)
set_option maxHeartbeats 40000 in
set_option maxRecDepth 100000 in
theorem wJ_X6_readRule_b84 {T : zT} {k0 : Nat} {k3 : Nat} {x4 : Int32} {S S0 : zS} {a b : Nat}  (hS : S.2 a b = S0.2 a b) : zwl (fX6_readRule_b84 T k0 k3 x4 S) (Sum.elim (fun q1 => q1.2.2 a b = S0.2 a b) (Sum.elim (fun q2 => q2.2 a b = S0.2 a b) (fun q2 => q2.2 a b = S0.2 a b))) := by
  unfold fX6_readRule_b84
  refine zwl_b (wJ_X6_isAtEnd  hS) (fun r15 S17 e1 => ?_)
  refine zwl_i ?_ ?_
  · refine zwl_v (fun u19 => ?_)
    exact zwl_r e1
  · exact zwl_r e1
set_option maxHeartbeats 40000 in
set_option maxRecDepth 100000 in
theorem wJ_X6_readRule_b45 {T : zT} {k0 : Nat} {k3 : Nat} {x4 : Int32} {s0 : Int32} {s1 : Nat} {S S0 : zS} {a b : Nat}  (hS : S.2 a b = S0.2 a b) : zwl (fX6_readRule_b45 T k0 k3 x4 s0 s1 S) (Sum.elim (fun q1 => q1.2.2 a b = S0.2 a b) (Sum.elim (fun q2 => q2.2 a b = S0.2 a b) (fun q2 => q2.2 a b = S0.2 a b))) := by
  unfold fX6_readRule_b45
  refine zwl_b (wJ_X6_startClause  hS) (fun r10 S12 e1 => ?_)
  refine zwl_i ?_ ?_
  · refine zwl_b (wJ_X6_readLike  e1) (fun r2 S26 e3 => ?_)
    exact (wJ_X6_readRule_b84  e3)
  · refine zwl_i ?_ ?_
    · refine zwl_b (wJ_X6_number  e1) (fun r20 S22 e4 => ?_)
      refine zwl_sJn e4 (fun S23 e5 => ?_)
      exact (wJ_X6_readRule_b84  e5)
    · exact (wJ_X6_readRule_b84  e1)
set_option maxHeartbeats 40000 in
set_option maxRecDepth 100000 in
theorem wJ_X6_readRule_l18 {T : zT} {k0 : Nat} {k3 : Nat} {x4 : Int32} {S S0 : zS} {a b : Nat}  (hS : S.2 a b = S0.2 a b) : zwl (fX6_readRule_l18 T k0 k3 x4 S) (Sum.elim (fun q1 => q1.2.2 a b = S0.2 a b) (Sum.elim (fun q2 => q2.2 a b = S0.2 a b) (fun q2 => q2.2 a b = S0.2 a b))) := by
  unfold fX6_readRule_l18
  refine zwl_i ?_ ?_
  · exact zwl_r hS
  · refine zwl_i ?_ ?_
    · refine zwl_i ?_ ?_
      · exact (wJ_X6_readRule_b45  hS)
      · exact (wJ_X6_readRule_b45  hS)
    · exact zwl_r hS
set_option maxHeartbeats 40000 in
set_option maxRecDepth 100000 in
theorem wJ_X6_readRule_b100 {T : zT} {k0 : Nat} {S S0 : zS} {a b : Nat}  (hS : S.2 a b = S0.2 a b) : zwl (fX6_readRule_b100 T k0 S) (fun q0 => q0.2.2 a b = S0.2 a b) := by
  unfold fX6_readRule_b100
  exact zwl_r hS
set_option maxHeartbeats 40000 in
set_option maxRecDepth 100000 in
theorem wJ_X6_readRule_b15 {T : zT} {k0 : Nat} {k3 : Nat} {S S0 : zS} {a b : Nat}  (hS : S.2 a b = S0.2 a b) : zwl (fX6_readRule_b15 T k0 k3 S) (fun q0 => q0.2.2 a b = S0.2 a b) := by
  unfold fX6_readRule_b15
  refine zwl_b1 (zwl_lp (I := (fun q0 => q0.2.2 a b = S0.2 a b)) (Q := (Sum.elim (fun q1 => q1.2 a b = S0.2 a b) (fun q1 => q1.2 a b = S0.2 a b))) (fun a e3 => (wJ_X6_readRule_l18  e3)) hS) (fun e27 e1 => ?_)
  refine zwl_m e1 (fun e27_0 e4 => ?_) (fun e27_1 e5 => ?_)
  · exact (wJ_X6_readRule_b100  e4)
  · exact (wJ_X6_readRule_b100  e5)
set_option maxHeartbeats 40000 in
set_option maxRecDepth 100000 in
theorem wJ_X6_readRule {T : zT} {k0 : Nat} {k1 : Nat} {n1 : Nat} {x2 : Int32} {k3 : Nat} {S S0 : zS} {a b : Nat}  (hS : S.2 a b = S0.2 a b) : zwl (fX6_readRule T k0 k1 n1 x2 k3 S) (fun q0 => q0.2.2 a b = S0.2 a b) := by
  unfold fX6_readRule
  refine zwl_b (wJ_X8_clear  hS) (fun r1 S3 e2 => ?_)
  refine zwl_b (wJ_X6_open  e2) (fun r3 S6 e4 => ?_)
  exact (wJ_X6_readRule_b15  e4)
set_option maxHeartbeats 40000 in
set_option maxRecDepth 100000 in
theorem wJ_X11_book_b19 {T : zT} {k0 : Nat} {s0 : Int32} {S S0 : zS} {a b : Nat}  (hS : S.2 a b = S0.2 a b) : zwl (fX11_book_b19 T k0 s0 S) (fun q0 => q0.2.2 a b = S0.2 a b) := by
  unfold fX11_book_b19
  refine zwl_sJn hS (fun S4 e1 => ?_)
  refine zwl_i ?_ ?_
  · refine zwl_b (wJ_X0_take  e1) (fun r2 S8 e3 => ?_)
    refine zwl_sJn e3 (fun S9 e4 => ?_)
    refine zwl_sJn e4 (fun S10 e5 => ?_)
    refine zwl_t (fun r11 => ?_)
    exact zwl_r e5
  · exact zwl_r e1
set_option maxHeartbeats 40000 in
set_option maxRecDepth 100000 in
theorem wJ_X11_book {T : zT} {k0 : Nat} {S S0 : zS} {a b : Nat}  (hS : S.2 a b = S0.2 a b) : zwl (fX11_book T k0 S) (fun q0 => q0.2.2 a b = S0.2 a b) := by
  unfold fX11_book
  refine zwl_b (wJ_X6_readBook  hS) (fun r1 S3 e1 => ?_)
  exact (wJ_X11_book_b19  e1)
set_option maxHeartbeats 40000 in
set_option maxRecDepth 100000 in
theorem wJ_X11_rule_b35 {T : zT} {k0 : Nat} {s0 : Int32} {S S0 : zS} {a b : Nat}  (hS : S.2 a b = S0.2 a b) : zwl (fX11_rule_b35 T k0 s0 S) (fun q0 => q0.2.2 a b = S0.2 a b) := by
  unfold fX11_rule_b35
  refine zwl_sJn hS (fun S6 e1 => ?_)
  refine zwl_i ?_ ?_
  · refine zwl_sJn e1 (fun S8 e2 => ?_)
    exact zwl_r e2
  · exact zwl_r e1
set_option maxHeartbeats 40000 in
set_option maxRecDepth 100000 in
theorem wJ_X11_rule {T : zT} {k0 : Nat} {S S0 : zS} {a b : Nat}  (hS : S.2 a b = S0.2 a b) : zwl (fX11_rule T k0 S) (fun q0 => q0.2.2 a b = S0.2 a b) := by
  unfold fX11_rule
  refine zwl_i ?_ ?_
  · refine zwl_g ?_
    refine zwl_b (wJ_X6_readRule  hS) (fun r3 S5 e1 => ?_)
    exact (wJ_X11_rule_b35  e1)
  · exact zwl_r hS
