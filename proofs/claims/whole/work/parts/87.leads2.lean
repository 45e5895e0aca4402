theorem goC_is8 {B : Bk} {G : Cg} {w : Int32} : is8 (goC B G w) := st8_is8
theorem ajC_le {B : Bk} (hB : okB B) {G : Cg} (hG : okG B G) {w : Nat} {x : Int} : ajC B G w x ≤ (if x < 0 then -1 else x + 19998) := by
  obtain ⟨c1, c2⟩ := hB.2.2.2.2.2.1
  have hs : (if nI w = G.2.2.1 then (B.1 4 G.2.1.toNatClampNeg).toInt else 0) ≤ 9999 ∨ ¬ w < 60 := by
    by_cases hw : w < 60
    · left
      rcases hG.2 with ⟨-, h⟩ | ⟨t, ht, h, hz⟩
      · rw [if_neg]
        · omega
        · rw [h]; intro q; have := z_eq.mp q; rw [nI_toInt (by omega)] at this; have e1 : (-1 : Int32).toInt = -1 := rfl; omega
      · rw [h, tn_nI (by omega)]
        have := (hB.2.1 t ht hz).2.2.2.2.1.2
        split <;> omega
    · exact Or.inr hw
  sorry
