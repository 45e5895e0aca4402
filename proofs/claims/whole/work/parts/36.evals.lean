theorem liq (n : Nat) : (OfNat.ofNat n : Int32) = nI (OfNat.ofNat n) := id rfl
theorem let_q {α : Sort _} {β : Sort _} {e : α} {k : α → β} : zlet e k = k e := id rfl
theorem b1_q {α : Type _} {β : Type _} {a : α} {k : α → Option β} : zb1 (some a) k = k a := id rfl
theorem b_q {α : Type _} {β : Type _} {a : α} {S : zS} {k : α → zS → Option β} : zb (some (a, S)) k = k a S := id rfl
theorem n_leL {a n : Nat} (ha : (OfNat.ofNat a : Nat) < 2147483648) (hn : n < 2147483648) : (no_index (OfNat.ofNat a : Int32) ≤ nI n) = ((OfNat.ofNat a : Nat) ≤ n) := by rw [liq, n_le ha hn]
theorem n_leR {a n : Nat} (ha : (OfNat.ofNat a : Nat) < 2147483648) (hn : n < 2147483648) : (nI n ≤ no_index (OfNat.ofNat a : Int32)) = (n ≤ (OfNat.ofNat a : Nat)) := by rw [liq, n_le hn ha]
theorem n_ltL {a n : Nat} (ha : (OfNat.ofNat a : Nat) < 2147483648) (hn : n < 2147483648) : (no_index (OfNat.ofNat a : Int32) < nI n) = ((OfNat.ofNat a : Nat) < n) := by rw [liq, n_lt ha hn]
theorem n_ltR {a n : Nat} (ha : (OfNat.ofNat a : Nat) < 2147483648) (hn : n < 2147483648) : (nI n < no_index (OfNat.ofNat a : Int32)) = (n < (OfNat.ofNat a : Nat)) := by rw [liq, n_lt hn ha]
theorem n_eqR {a n : Nat} (ha : (OfNat.ofNat a : Nat) < 2147483648) (hn : n < 2147483648) : (nI n = no_index (OfNat.ofNat a : Int32)) = (n = (OfNat.ofNat a : Nat)) := by rw [liq, n_eq hn ha]
theorem n_addL {a n : Nat} : nI n + no_index (OfNat.ofNat a : Int32) = nI (n + (OfNat.ofNat a : Nat)) := by rw [liq, n_add]
theorem n_subL {a n : Nat} (h : (OfNat.ofNat a : Nat) ≤ n) : nI n - no_index (OfNat.ofNat a : Int32) = nI (n - (OfNat.ofNat a : Nat)) := by rw [liq, n_sub h]
/-! STEPS of a run with a wanted answer, one behind another -/
theorem w_some {β : Type _} {b : β} {Q : β → Prop} (h : Q b) : zwp (some b) Q := ⟨b, rfl, h⟩
theorem w_let {α : Type _} {β : Type _} {e : α} {k : α → Option β} {Q : β → Prop} (h : zwp (k e) Q) : zwp (zlet e k) Q := h
theorem w_gd {β : Type _} {c : Bool} {k : Option β} {Q : β → Prop} (hc : c = true) (h : zwp k Q) : zwp (zgd c k) Q := zwp_gd.mpr ⟨hc, h⟩
theorem w_gi {β : Type _} {i : Int32} {n : Nat} {k : Option β} {Q : β → Prop} (h1 : 0 ≤ i.toInt) (h2 : i.toInt < n) (h : zwp k Q) : zwp (zgd (zin i n) k) Q := w_gd (zin_iff.mpr ⟨h1, h2⟩) h
theorem w_gn {β : Type _} {i n : Nat} {k : Option β} {Q : β → Prop} (h1 : i < n) (h2 : n < 2147483648) (h : zwp k Q) : zwp (zgd (zin (nI i) n) k) Q := w_gd (n_zin h1 h2) h
theorem w_b {α : Type _} {β : Type _} {o : Option (α × zS)} {k : α → zS → Option β} {P : α × zS → Prop} {Q : β → Prop} (h : zwp o P) (hk : ∀ r S, P (r, S) → zwp (k r S) Q) : zwp (zb o k) Q := zwp_b.mpr (zwp_mono h (fun b hb => hk b.1 b.2 hb))
theorem w_b1 {α : Type _} {β : Type _} {o : Option α} {k : α → Option β} {P : α → Prop} {Q : β → Prop} (h : zwp o P) (hk : ∀ r, P r → zwp (k r) Q) : zwp (zb1 o k) Q := zwp_b1.mpr (zwp_mono h hk)
theorem w_bE {α : Type _} {β : Type _} {o : Option (α × zS)} {k : α → zS → Option β} {r : α} {S : zS} {Q : β → Prop} (h : o = some (r, S)) (hk : zwp (k r S) Q) : zwp (zb o k) Q := by rw [h]; exact hk
theorem w_b1E {α : Type _} {β : Type _} {o : Option α} {k : α → Option β} {r : α} {Q : β → Prop} (h : o = some r) (hk : zwp (k r) Q) : zwp (zb1 o k) Q := by rw [h]; exact hk
theorem w_if {β : Type _} {c : Prop} [Decidable c] {a b : Option β} {Q : β → Prop} (h1 : c → zwp a Q) (h2 : ¬ c → zwp b Q) : zwp (if c then a else b) Q := zwp_ite.mpr ⟨h1, h2⟩
theorem w_ip {β : Type _} {c : Prop} [Decidable c] {a b : Option β} {Q : β → Prop} (h : c) (h1 : zwp a Q) : zwp (if c then a else b) Q := by rw [if_pos h]; exact h1
theorem w_in {β : Type _} {c : Prop} [Decidable c] {a b : Option β} {Q : β → Prop} (h : ¬ c) (h1 : zwp b Q) : zwp (if c then a else b) Q := by rw [if_neg h]; exact h1
/-! THE CLASS WORKS A CODE OUT -/
theorem zJ_o {S : zS} {k i a b : Nat} {x : Int64} (h : a ≠ k) : (zJ S k i x).2 a b = S.2 a b := by rw [zJ_at, if_neg (fun q => h q.1)]
theorem zJ_s {S : zS} {k i : Nat} {x : Int64} : (zJ S k i x).2 k i = x := by rw [zJ_at, if_pos ⟨rfl, rfl⟩]
theorem zI_o {S : zS} {k i a b : Nat} {x : Int32} (h : ¬ (a = k ∧ b = i)) : (zI S k i x).1 a b = S.1 a b := by rw [zI_at, if_neg h]
theorem zI_s {S : zS} {k i : Nat} {x : Int32} : (zI S k i x).1 k i = x := by rw [zI_at, if_pos ⟨rfl, rfl⟩]
/-- only the longs of cell k differ -/
def onlyJ (S S' : zS) (k : Nat) : Prop := S'.1 = S.1 ∧ ∀ a b, a ≠ k → S'.2 a b = S.2 a b
theorem onlyJ_refl {S : zS} {k : Nat} : onlyJ S S k := ⟨rfl, fun _ _ _ => rfl⟩
theorem onlyJ_z {S S' : zS} {k i : Nat} {x : Int64} (h : onlyJ (zJ S k i x) S' k) : onlyJ S S' k := ⟨h.1.trans zJ_i, fun a b n => (h.2 a b n).trans (zJ_o n)⟩
theorem c_num {T : zT} {ks kc n i v : Nat} {S : zS} (h1 : zr T kc 0 = kc + 1) (h3 : zr T ks 1 = ks + 2) (hi : i < 512) (hn : n < 64) (hv : v ≤ 99999) (h : S.1 (kc + 1) i = enc (31, v) ∧ (i : Int) < (S.1 kc 1).toInt) : fX9_valueAt_l5 T ks kc (nI n) (nI i) S = some (.inl (nI (n + 1), nI (i + 1), zJ S (ks + 2) n (nI v).toInt64)) := by
  unfold fX9_valueAt_l5
  have e1 := v_kindAt h1 hi h (Nat.le_of_ble_eq_true rfl)
  have e2 := v_numberAt h1 hi h (show v < 131072 by omega)
  simp (disch := omega) only [e1, e2, b1_q, let_q, liq, n_le, if_neg, h3]
  rw [if_neg (by decide), if_pos (by decide)]
  unfold fX9_valueAt_b45 fX9_valueAt_b83 fX9_valueAt_b87 fX9_valueAt_b157
  simp (disch := omega) only [e2, b1_q, let_q, liq, n_le, if_neg, h3]
  rw [if_pos trivial]
  simp (disch := omega) only [g_in, tn_nI, n_add]
