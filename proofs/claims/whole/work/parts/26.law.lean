/-! THE LAW over what is above: its loop, given that each pair of calls answers alike and keeps the invariant -/
def mL (nm : String) : zM := (RL, ⟨RL, nm, ""⟩, code, 4, ret)
theorem law_i {L i : Nat} (hL : L ≤ 3072) (hi : i ≤ 3078) (h : ¬ (Int32.ofNat L - 6 < nI i)) : i + 6 ≤ L := by
  have e1 : (nI i).toInt = (i : Int) := nI_toInt (by omega)
  have e2 : (Int32.ofNat L).toInt = (L : Int) := nI_toInt (n := L) (by omega)
  have e3 : (Int32.ofNat L - 6).toInt = (L : Int) - 6 := by
    rw [Int32.toInt_sub, e2, show (6 : Int32).toInt = 6 from rfl]
    simp only [Int.bmod_def]
    omega
  rw [Int32.lt_iff_toInt_lt, e1, e3] at h
  omega
theorem law_o {L i : Nat} (hL : L ≤ 3072) (hi : i ≤ 3078) (h : ¬ i + 6 ≤ L) : Int32.ofNat L - 6 < nI i := by
  have e1 : (nI i).toInt = (i : Int) := nI_toInt (by omega)
  have e2 : (Int32.ofNat L).toInt = (L : Int) := nI_toInt (n := L) (by omega)
  have e3 : (Int32.ofNat L - 6).toInt = (L : Int) - 6 := by
    rw [Int32.toInt_sub, e2, show (6 : Int32).toInt = 6 from rfl]
    simp only [Int.bmod_def]
    omega
  rw [Int32.lt_iff_toInt_lt, e1, e3]
  omega
theorem law_v0 {L i : Nat} (hL : L ≤ 3072) (h : i + 6 ≤ L) : vp_in (nI i) L := by
  exact vp_in_nI (by omega) (by omega)
theorem law_x0 {L i : Nat} (xs : Nat → Int32) (hL : L ≤ 3072) (h : i + 6 ≤ L) : xs (i + 0) = xs (nI i).toNatClampNeg := by
  rw [nI_clamp (by omega)]
  rfl
theorem law_v1 {L i : Nat} (hL : L ≤ 3072) (h : i + 6 ≤ L) : vp_in (nI i + 1) L := by
  rw [show nI i + 1 = nI (i + 1) from nI_add i 1]; exact vp_in_nI (by omega) (by omega)
theorem law_x1 {L i : Nat} (xs : Nat → Int32) (hL : L ≤ 3072) (h : i + 6 ≤ L) : xs (i + 1) = xs (nI i + 1).toNatClampNeg := by
  rw [show nI i + 1 = nI (i + 1) from nI_add i 1]; rw [nI_clamp (by omega)]
theorem law_v2 {L i : Nat} (hL : L ≤ 3072) (h : i + 6 ≤ L) : vp_in (nI i + 2) L := by
  rw [show nI i + 2 = nI (i + 2) from nI_add i 2]; exact vp_in_nI (by omega) (by omega)
theorem law_x2 {L i : Nat} (xs : Nat → Int32) (hL : L ≤ 3072) (h : i + 6 ≤ L) : xs (i + 2) = xs (nI i + 2).toNatClampNeg := by
  rw [show nI i + 2 = nI (i + 2) from nI_add i 2]; rw [nI_clamp (by omega)]
theorem law_v3 {L i : Nat} (hL : L ≤ 3072) (h : i + 6 ≤ L) : vp_in (nI i + 3) L := by
  rw [show nI i + 3 = nI (i + 3) from nI_add i 3]; exact vp_in_nI (by omega) (by omega)
theorem law_x3 {L i : Nat} (xs : Nat → Int32) (hL : L ≤ 3072) (h : i + 6 ≤ L) : xs (i + 3) = xs (nI i + 3).toNatClampNeg := by
  rw [show nI i + 3 = nI (i + 3) from nI_add i 3]; rw [nI_clamp (by omega)]
theorem law_v4 {L i : Nat} (hL : L ≤ 3072) (h : i + 6 ≤ L) : vp_in (nI i + 4) L := by
  rw [show nI i + 4 = nI (i + 4) from nI_add i 4]; exact vp_in_nI (by omega) (by omega)
theorem law_x4 {L i : Nat} (xs : Nat → Int32) (hL : L ≤ 3072) (h : i + 6 ≤ L) : xs (i + 4) = xs (nI i + 4).toNatClampNeg := by
  rw [show nI i + 4 = nI (i + 4) from nI_add i 4]; rw [nI_clamp (by omega)]
theorem law_v5 {L i : Nat} (hL : L ≤ 3072) (h : i + 6 ≤ L) : vp_in (nI i + 5) L := by
  rw [show nI i + 5 = nI (i + 5) from nI_add i 5]; exact vp_in_nI (by omega) (by omega)
theorem law_x5 {L i : Nat} (xs : Nat → Int32) (hL : L ≤ 3072) (h : i + 6 ≤ L) : xs (i + 5) = xs (nI i + 5).toNatClampNeg := by
  rw [show nI i + 5 = nI (i + 5) from nI_add i 5]; rw [nI_clamp (by omega)]
section ZL
variable {g : zG} {nm : String} {T0 T T' : zT} {S S' : zS} {v : Option Value} {i : Nat}
theorem law_end (hL : g.2.2.2.2.2.1 ≤ 3072) (hi : i ≤ 3078) (h : ¬ i + 6 ≤ g.2.2.2.2.2.1) : zg g 1312 (mL nm) T0 18 [some (.ref 10001), some (.ref 0), some (.ref 187), some (.int (nI i))] [] T S (some (.int 1)) T S := by
  refine z_iload_n dL_law_18 rfl ?_
  refine z_aload_n dL_law_19 rfl ?_
  refine z_slen dL_law_20 ?_
  refine z_bipush (r := 6) dL_law_21 (by decide) ?_
  refine z_isub dL_law_23 rfl ?_
  refine z_icmp_gt (tgt := 1153) dL_law_24 (by decide) (fun q => ?_) (fun q => absurd (law_o hL hi h) q)
  refine z_iconst (r := 1) dL_law_1153 (by decide) ?_
  exact z_zret rfl (Or.inr rfl) dL_law_1154
theorem law_hd (hL : g.2.2.2.2.2.1 ≤ 3072) (hi : i ≤ 3078) (h : i + 6 ≤ g.2.2.2.2.2.1) (k : zg g 1312 (mL nm) T0 33 [some (.ref 10001), some (.ref 0), some (.ref 187), some (.int (nI i))] [.int (g.2.2.2.2.2.2 (i + 0) &&& 63)] T S v T' S') : zg g 1312 (mL nm) T0 18 [some (.ref 10001), some (.ref 0), some (.ref 187), some (.int (nI i))] [] T S v T' S' := by
  refine z_iload_n dL_law_18 rfl ?_
  refine z_aload_n dL_law_19 rfl ?_
  refine z_slen dL_law_20 ?_
  refine z_bipush (r := 6) dL_law_21 (by decide) ?_
  refine z_isub dL_law_23 rfl ?_
  refine z_icmp_gt (tgt := 1153) dL_law_24 (by decide) (fun q => ?_) (fun q => ?_)
  · exact absurd (by omega) (fun z : i + 6 ≤ g.2.2.2.2.2.1 => (fun w => w q) (fun q2 => by
      have e1 : (nI i).toInt = (i : Int) := nI_toInt (by omega)
      have e2 : (Int32.ofNat g.2.2.2.2.2.1).toInt = (g.2.2.2.2.2.1 : Int) := nI_toInt (n := g.2.2.2.2.2.1) (by omega)
      have e3 : (Int32.ofNat g.2.2.2.2.2.1 - 6).toInt = (g.2.2.2.2.2.1 : Int) - 6 := by
        rw [Int32.toInt_sub, e2, show (6 : Int32).toInt = 6 from rfl]
        simp only [Int.bmod_def]
        omega
      have q3 : Int32.ofNat g.2.2.2.2.2.1 - 6 < nI i := q2
      rw [Int32.lt_iff_toInt_lt, e1, e3] at q3
      omega))
  refine z_aload_n dL_law_27 rfl ?_
  refine z_iload_n dL_law_28 rfl ?_
  refine z_sld (law_v0 hL h) dL_law_29 ?_
  refine z_ti (law_x0 g.2.2.2.2.2.2 hL h) ?_
  refine z_bipush (r := 63) dL_law_30 (by decide) ?_
  refine z_iand dL_law_32 rfl ?_
  exact k
theorem law_nx (k : zg g 1312 (mL nm) T0 18 [some (.ref 10001), some (.ref 0), some (.ref 187), some (.int (nI (i + 6)))] [] T S v T' S') : zg g 1312 (mL nm) T0 1147 [some (.ref 10001), some (.ref 0), some (.ref 187), some (.int (nI i))] [] T S v T' S' := by
  refine z_iinc (r := nI (i + 6)) dL_law_1147 rfl (nI_add i 6) rfl (by show 3 < 4; decide) rfl ?_
  refine z_goto (tgt := 18) dL_law_1150 (by decide) ?_
  exact k
theorem law_df (hx : ¬ (0 ≤ (g.2.2.2.2.2.2 (i + 0) &&& 63).toInt ∧ (g.2.2.2.2.2.2 (i + 0) &&& 63).toInt ≤ 33)) (k : zg g 1312 (mL nm) T0 1147 [some (.ref 10001), some (.ref 0), some (.ref 187), some (.int (nI i))] [] T S v T' S') : zg g 1312 (mL nm) T0 33 [some (.ref 10001), some (.ref 0), some (.ref 187), some (.int (nI i))] [.int (g.2.2.2.2.2.2 (i + 0) &&& 63)] T S v T' S' := by
  refine z_tableOut (tgt := 1147) dL_law_33 (by omega) (by decide) ?_
  exact k
set_option maxHeartbeats 4000000 in
set_option maxRecDepth 100000 in
theorem law_c0 {r : Int32} {S1 : zS} {S2 : zS} (hL : g.2.2.2.2.2.1 ≤ 3072) (h : i + 6 ≤ g.2.2.2.2.2.1) (h11 : iX11 T 0) (h12 : iX12 T 187) (hle : T.1 ≤ T'.1 ∧ T.2.1 ≤ T'.2.1) (h1 : fX11_feed T 0 (g.2.2.2.2.2.2 (i + 1)) (g.2.2.2.2.2.2 (i + 2)) (g.2.2.2.2.2.2 (i + 3)) (g.2.2.2.2.2.2 (i + 4)) (g.2.2.2.2.2.2 (i + 5)) S = some (r, S1)) (h2 : fX12_feed T 187 (g.2.2.2.2.2.2 (i + 1)) (g.2.2.2.2.2.2 (i + 2)) (g.2.2.2.2.2.2 (i + 3)) (g.2.2.2.2.2.2 (i + 4)) (g.2.2.2.2.2.2 (i + 5)) S1 = some (r, S2)) (k : zg g 1312 (mL nm) T0 1147 [some (.ref 10001), some (.ref 0), some (.ref 187), some (.int (nI i))] [] T S2 v T' S') (hx : g.2.2.2.2.2.2 (i + 0) &&& 63 = 0) : zg g 1312 (mL nm) T0 33 [some (.ref 10001), some (.ref 0), some (.ref 187), some (.int (nI i))] [.int (g.2.2.2.2.2.2 (i + 0) &&& 63)] T S v T' S' := by
  refine z_tableIn (off := 151) (tgt := 184) dL_law_33 (by rw [hx]; decide) (by rw [hx]; decide) (by rw [hx]; rfl) (by decide) ?_
  refine z_aload_n dL_law_184 rfl ?_
  refine z_aload_n dL_law_185 rfl ?_
  refine z_iload_n dL_law_186 rfl ?_
  refine z_iconst (r := 1) dL_law_187 (by decide) ?_
  refine z_iadd dL_law_188 rfl ?_
  refine z_sld (law_v1 hL h) dL_law_189 ?_
  refine z_ti (law_x1 g.2.2.2.2.2.2 hL h) ?_
  refine z_aload_n dL_law_190 rfl ?_
  refine z_iload_n dL_law_191 rfl ?_
  refine z_iconst (r := 2) dL_law_192 (by decide) ?_
  refine z_iadd dL_law_193 rfl ?_
  refine z_sld (law_v2 hL h) dL_law_194 ?_
  refine z_ti (law_x2 g.2.2.2.2.2.2 hL h) ?_
  refine z_aload_n dL_law_195 rfl ?_
  refine z_iload_n dL_law_196 rfl ?_
  refine z_iconst (r := 3) dL_law_197 (by decide) ?_
  refine z_iadd dL_law_198 rfl ?_
  refine z_sld (law_v3 hL h) dL_law_199 ?_
  refine z_ti (law_x3 g.2.2.2.2.2.2 hL h) ?_
  refine z_aload_n dL_law_200 rfl ?_
  refine z_iload_n dL_law_201 rfl ?_
  refine z_iconst (r := 4) dL_law_202 (by decide) ?_
  refine z_iadd dL_law_203 rfl ?_
  refine z_sld (law_v4 hL h) dL_law_204 ?_
  refine z_ti (law_x4 g.2.2.2.2.2.2 hL h) ?_
  refine z_aload_n dL_law_205 rfl ?_
  refine z_iload_n dL_law_206 rfl ?_
  refine z_iconst (r := 5) dL_law_207 (by decide) ?_
  refine z_iadd dL_law_208 rfl ?_
  refine z_sld (law_v5 hL h) dL_law_209 ?_
  refine z_ti (law_x5 g.2.2.2.2.2.2 hL h) ?_
  refine z_callV (As := [.int (g.2.2.2.2.2.2 (i + 1)), .int (g.2.2.2.2.2.2 (i + 2)), .int (g.2.2.2.2.2.2 (i + 3)), .int (g.2.2.2.2.2.2 (i + 4)), .int (g.2.2.2.2.2.2 (i + 5))]) zcX11 zkL_13 ziX11_feed zqX11_feed h11.1 (tX11_feed T 0 (g.2.2.2.2.2.2 (i + 1)) (g.2.2.2.2.2.2 (i + 2)) (g.2.2.2.2.2.2 (i + 3)) (g.2.2.2.2.2.2 (i + 4)) (g.2.2.2.2.2.2 (i + 5)) S h11 (r, S1) h1) rfl rfl (Nat.le_of_ble_eq_true rfl) (by decide) ⟨Nat.le_refl _, Nat.le_refl _⟩ hle dL_law_210 ?_
  refine z_aload_n dL_law_213 rfl ?_
  refine z_aload_n dL_law_214 rfl ?_
  refine z_iload_n dL_law_215 rfl ?_
  refine z_iconst (r := 1) dL_law_216 (by decide) ?_
  refine z_iadd dL_law_217 rfl ?_
  refine z_sld (law_v1 hL h) dL_law_218 ?_
  refine z_ti (law_x1 g.2.2.2.2.2.2 hL h) ?_
  refine z_aload_n dL_law_219 rfl ?_
  refine z_iload_n dL_law_220 rfl ?_
  refine z_iconst (r := 2) dL_law_221 (by decide) ?_
  refine z_iadd dL_law_222 rfl ?_
  refine z_sld (law_v2 hL h) dL_law_223 ?_
  refine z_ti (law_x2 g.2.2.2.2.2.2 hL h) ?_
  refine z_aload_n dL_law_224 rfl ?_
  refine z_iload_n dL_law_225 rfl ?_
  refine z_iconst (r := 3) dL_law_226 (by decide) ?_
  refine z_iadd dL_law_227 rfl ?_
  refine z_sld (law_v3 hL h) dL_law_228 ?_
  refine z_ti (law_x3 g.2.2.2.2.2.2 hL h) ?_
  refine z_aload_n dL_law_229 rfl ?_
  refine z_iload_n dL_law_230 rfl ?_
  refine z_iconst (r := 4) dL_law_231 (by decide) ?_
  refine z_iadd dL_law_232 rfl ?_
  refine z_sld (law_v4 hL h) dL_law_233 ?_
  refine z_ti (law_x4 g.2.2.2.2.2.2 hL h) ?_
  refine z_aload_n dL_law_234 rfl ?_
  refine z_iload_n dL_law_235 rfl ?_
  refine z_iconst (r := 5) dL_law_236 (by decide) ?_
  refine z_iadd dL_law_237 rfl ?_
  refine z_sld (law_v5 hL h) dL_law_238 ?_
  refine z_ti (law_x5 g.2.2.2.2.2.2 hL h) ?_
  refine z_callV (As := [.int (g.2.2.2.2.2.2 (i + 1)), .int (g.2.2.2.2.2.2 (i + 2)), .int (g.2.2.2.2.2.2 (i + 3)), .int (g.2.2.2.2.2.2 (i + 4)), .int (g.2.2.2.2.2.2 (i + 5))]) zcX12 zkL_17 ziX12_feed zqX12_feed h12.1 (tX12_feed T 187 (g.2.2.2.2.2.2 (i + 1)) (g.2.2.2.2.2.2 (i + 2)) (g.2.2.2.2.2.2 (i + 3)) (g.2.2.2.2.2.2 (i + 4)) (g.2.2.2.2.2.2 (i + 5)) S1 h12 (r, S2) h2) rfl rfl (Nat.le_of_ble_eq_true rfl) (by decide) ⟨Nat.le_refl _, Nat.le_refl _⟩ hle dL_law_239 ?_
  refine z_icmp_eq (tgt := 1147) dL_law_242 (by decide) (fun _ => ?_) (fun q => absurd rfl q)
  exact k
set_option maxHeartbeats 4000000 in
set_option maxRecDepth 100000 in
theorem law_c1 {r : Int32} {S1 : zS} {S2 : zS} (hL : g.2.2.2.2.2.1 ≤ 3072) (h : i + 6 ≤ g.2.2.2.2.2.1) (h11 : iX11 T 0) (h12 : iX12 T 187) (hle : T.1 ≤ T'.1 ∧ T.2.1 ≤ T'.2.1) (h1 : fX11_end T 0 (g.2.2.2.2.2.2 (i + 1)) S = some (r, S1)) (h2 : fX12_end T 187 (g.2.2.2.2.2.2 (i + 1)) S1 = some (r, S2)) (k : zg g 1312 (mL nm) T0 1147 [some (.ref 10001), some (.ref 0), some (.ref 187), some (.int (nI i))] [] T S2 v T' S') (hx : g.2.2.2.2.2.2 (i + 0) &&& 63 = 1) : zg g 1312 (mL nm) T0 33 [some (.ref 10001), some (.ref 0), some (.ref 187), some (.int (nI i))] [.int (g.2.2.2.2.2.2 (i + 0) &&& 63)] T S v T' S' := by
  refine z_tableIn (off := 214) (tgt := 247) dL_law_33 (by rw [hx]; decide) (by rw [hx]; decide) (by rw [hx]; rfl) (by decide) ?_
  refine z_aload_n dL_law_247 rfl ?_
  refine z_aload_n dL_law_248 rfl ?_
  refine z_iload_n dL_law_249 rfl ?_
  refine z_iconst (r := 1) dL_law_250 (by decide) ?_
  refine z_iadd dL_law_251 rfl ?_
  refine z_sld (law_v1 hL h) dL_law_252 ?_
  refine z_ti (law_x1 g.2.2.2.2.2.2 hL h) ?_
  refine z_callV (As := [.int (g.2.2.2.2.2.2 (i + 1))]) zcX11 zkL_18 ziX11_end zqX11_end h11.1 (tX11_end T 0 (g.2.2.2.2.2.2 (i + 1)) S h11 (r, S1) h1) rfl rfl (Nat.le_of_ble_eq_true rfl) (by decide) ⟨Nat.le_refl _, Nat.le_refl _⟩ hle dL_law_253 ?_
  refine z_aload_n dL_law_256 rfl ?_
  refine z_aload_n dL_law_257 rfl ?_
  refine z_iload_n dL_law_258 rfl ?_
  refine z_iconst (r := 1) dL_law_259 (by decide) ?_
  refine z_iadd dL_law_260 rfl ?_
  refine z_sld (law_v1 hL h) dL_law_261 ?_
  refine z_ti (law_x1 g.2.2.2.2.2.2 hL h) ?_
  refine z_callV (As := [.int (g.2.2.2.2.2.2 (i + 1))]) zcX12 zkL_22 ziX12_end zqX12_end h12.1 (tX12_end T 187 (g.2.2.2.2.2.2 (i + 1)) S1 h12 (r, S2) h2) rfl rfl (Nat.le_of_ble_eq_true rfl) (by decide) ⟨Nat.le_refl _, Nat.le_refl _⟩ hle dL_law_262 ?_
  refine z_icmp_eq (tgt := 1147) dL_law_265 (by decide) (fun _ => ?_) (fun q => absurd rfl q)
  exact k
set_option maxHeartbeats 4000000 in
set_option maxRecDepth 100000 in
theorem law_c2 {r : Int32} {S1 : zS} {S2 : zS} (hL : g.2.2.2.2.2.1 ≤ 3072) (h : i + 6 ≤ g.2.2.2.2.2.1) (h11 : iX11 T 0) (h12 : iX12 (zQ T (zr T 0 2) 9 (zr T (zr T 0 4) 14)) 187) (hle0 : T.1 ≤ (zQ T (zr T 0 2) 9 (zr T (zr T 0 4) 14)).1 ∧ T.2.1 ≤ (zQ T (zr T 0 2) 9 (zr T (zr T 0 4) 14)).2.1) (hle : (zQ T (zr T 0 2) 9 (zr T (zr T 0 4) 14)).1 ≤ T'.1 ∧ (zQ T (zr T 0 2) 9 (zr T (zr T 0 4) 14)).2.1 ≤ T'.2.1) (h1 : fX11_book T 0 S = some (r, S1)) (h2 : fX12_book (zQ T (zr T 0 2) 9 (zr T (zr T 0 4) 14)) 187 S1 = some (r, S2)) (k : zg g 1312 (mL nm) T0 1147 [some (.ref 10001), some (.ref 0), some (.ref 187), some (.int (nI i))] [] (zQ T (zr T 0 2) 9 (zr T (zr T 0 4) 14)) S2 v T' S') (hx : g.2.2.2.2.2.2 (i + 0) &&& 63 = 2) : zg g 1312 (mL nm) T0 33 [some (.ref 10001), some (.ref 0), some (.ref 187), some (.int (nI i))] [.int (g.2.2.2.2.2.2 (i + 0) &&& 63)] T S v T' S' := by
  refine z_tableIn (off := 237) (tgt := 270) dL_law_33 (by rw [hx]; decide) (by rw [hx]; decide) (by rw [hx]; rfl) (by decide) ?_
  refine z_aload_n dL_law_270 rfl ?_
  refine z_callV (T1 := (zQ T (zr T 0 2) 9 (zr T (zr T 0 4) 14))) (As := []) zcX11 zkL_23 ziX11_book zqX11_book h11.1 (tX11_book T 0  S h11 (r, S1) h1) rfl rfl (Nat.le_of_ble_eq_true rfl) (by decide) hle0 hle dL_law_271 ?_
  refine z_aload_n dL_law_274 rfl ?_
  refine z_callV (As := []) zcX12 zkL_27 ziX12_book zqX12_book h12.1 (tX12_book (zQ T (zr T 0 2) 9 (zr T (zr T 0 4) 14)) 187  S1 h12 (r, S2) h2) rfl rfl (Nat.le_of_ble_eq_true rfl) (by decide) ⟨Nat.le_refl _, Nat.le_refl _⟩ hle dL_law_275 ?_
  refine z_icmp_eq (tgt := 1147) dL_law_278 (by decide) (fun _ => ?_) (fun q => absurd rfl q)
  exact k
set_option maxHeartbeats 4000000 in
set_option maxRecDepth 100000 in
theorem law_c3 {r : Int32} {S1 : zS} {S2 : zS} (hL : g.2.2.2.2.2.1 ≤ 3072) (h : i + 6 ≤ g.2.2.2.2.2.1) (h11 : iX11 T 0) (h12 : iX12 (fX11_ruleT T 0 S) 187) (hle0 : T.1 ≤ (fX11_ruleT T 0 S).1 ∧ T.2.1 ≤ (fX11_ruleT T 0 S).2.1) (hle : (fX11_ruleT T 0 S).1 ≤ T'.1 ∧ (fX11_ruleT T 0 S).2.1 ≤ T'.2.1) (h1 : fX11_rule T 0 S = some (r, S1)) (h2 : fX12_rule (fX11_ruleT T 0 S) 187 S1 = some (r, S2)) (k : zg g 1312 (mL nm) T0 1147 [some (.ref 10001), some (.ref 0), some (.ref 187), some (.int (nI i))] [] (fX11_ruleT T 0 S) S2 v T' S') (hx : g.2.2.2.2.2.2 (i + 0) &&& 63 = 3) : zg g 1312 (mL nm) T0 33 [some (.ref 10001), some (.ref 0), some (.ref 187), some (.int (nI i))] [.int (g.2.2.2.2.2.2 (i + 0) &&& 63)] T S v T' S' := by
  refine z_tableIn (off := 250) (tgt := 283) dL_law_33 (by rw [hx]; decide) (by rw [hx]; decide) (by rw [hx]; rfl) (by decide) ?_
  refine z_aload_n dL_law_283 rfl ?_
  refine z_callV (T1 := (fX11_ruleT T 0 S)) (As := []) zcX11 zkL_28 ziX11_rule zqX11_rule h11.1 (tX11_rule T 0  S h11 (r, S1) h1) rfl rfl (Nat.le_of_ble_eq_true rfl) (by decide) hle0 hle dL_law_284 ?_
  refine z_aload_n dL_law_287 rfl ?_
  refine z_callV (As := []) zcX12 zkL_31 ziX12_rule zqX12_rule h12.1 (tX12_rule (fX11_ruleT T 0 S) 187  S1 h12 (r, S2) h2) rfl rfl (Nat.le_of_ble_eq_true rfl) (by decide) ⟨Nat.le_refl _, Nat.le_refl _⟩ hle dL_law_288 ?_
  refine z_icmp_eq (tgt := 1147) dL_law_291 (by decide) (fun _ => ?_) (fun q => absurd rfl q)
  exact k
set_option maxHeartbeats 4000000 in
set_option maxRecDepth 100000 in
theorem law_c4 {r : Int32} (hL : g.2.2.2.2.2.1 ≤ 3072) (h : i + 6 ≤ g.2.2.2.2.2.1) (h11 : iX11 T 0) (h12 : iX12 T 187) (hle : T.1 ≤ T'.1 ∧ T.2.1 ≤ T'.2.1) (h1 : fX11_thing T 0 (g.2.2.2.2.2.2 (i + 1)) (g.2.2.2.2.2.2 (i + 2)) S = some r) (h2 : fX12_thing T 187 (g.2.2.2.2.2.2 (i + 1)) (g.2.2.2.2.2.2 (i + 2)) S = some r) (k : zg g 1312 (mL nm) T0 1147 [some (.ref 10001), some (.ref 0), some (.ref 187), some (.int (nI i))] [] T S v T' S') (hx : g.2.2.2.2.2.2 (i + 0) &&& 63 = 4) : zg g 1312 (mL nm) T0 33 [some (.ref 10001), some (.ref 0), some (.ref 187), some (.int (nI i))] [.int (g.2.2.2.2.2.2 (i + 0) &&& 63)] T S v T' S' := by
  refine z_tableIn (off := 263) (tgt := 296) dL_law_33 (by rw [hx]; decide) (by rw [hx]; decide) (by rw [hx]; rfl) (by decide) ?_
  refine z_aload_n dL_law_296 rfl ?_
  refine z_aload_n dL_law_297 rfl ?_
  refine z_iload_n dL_law_298 rfl ?_
  refine z_iconst (r := 1) dL_law_299 (by decide) ?_
  refine z_iadd dL_law_300 rfl ?_
  refine z_sld (law_v1 hL h) dL_law_301 ?_
  refine z_ti (law_x1 g.2.2.2.2.2.2 hL h) ?_
  refine z_aload_n dL_law_302 rfl ?_
  refine z_iload_n dL_law_303 rfl ?_
  refine z_iconst (r := 2) dL_law_304 (by decide) ?_
  refine z_iadd dL_law_305 rfl ?_
  refine z_sld (law_v2 hL h) dL_law_306 ?_
  refine z_ti (law_x2 g.2.2.2.2.2.2 hL h) ?_
  refine z_callV (As := [.int (g.2.2.2.2.2.2 (i + 1)), .int (g.2.2.2.2.2.2 (i + 2))]) zcX11 zkL_32 ziX11_thing zqX11_thing h11.1 (tX11_thing T 0 (g.2.2.2.2.2.2 (i + 1)) (g.2.2.2.2.2.2 (i + 2)) S h11 r h1) rfl rfl (Nat.le_of_ble_eq_true rfl) (by decide) ⟨Nat.le_refl _, Nat.le_refl _⟩ hle dL_law_307 ?_
  refine z_aload_n dL_law_310 rfl ?_
  refine z_aload_n dL_law_311 rfl ?_
  refine z_iload_n dL_law_312 rfl ?_
  refine z_iconst (r := 1) dL_law_313 (by decide) ?_
  refine z_iadd dL_law_314 rfl ?_
  refine z_sld (law_v1 hL h) dL_law_315 ?_
  refine z_ti (law_x1 g.2.2.2.2.2.2 hL h) ?_
  refine z_aload_n dL_law_316 rfl ?_
  refine z_iload_n dL_law_317 rfl ?_
  refine z_iconst (r := 2) dL_law_318 (by decide) ?_
  refine z_iadd dL_law_319 rfl ?_
  refine z_sld (law_v2 hL h) dL_law_320 ?_
  refine z_ti (law_x2 g.2.2.2.2.2.2 hL h) ?_
  refine z_callV (As := [.int (g.2.2.2.2.2.2 (i + 1)), .int (g.2.2.2.2.2.2 (i + 2))]) zcX12 zkL_36 ziX12_thing zqX12_thing h12.1 (tX12_thing T 187 (g.2.2.2.2.2.2 (i + 1)) (g.2.2.2.2.2.2 (i + 2)) S h12 r h2) rfl rfl (Nat.le_of_ble_eq_true rfl) (by decide) ⟨Nat.le_refl _, Nat.le_refl _⟩ hle dL_law_321 ?_
  refine z_icmp_eq (tgt := 1147) dL_law_324 (by decide) (fun _ => ?_) (fun q => absurd rfl q)
  exact k
set_option maxHeartbeats 4000000 in
set_option maxRecDepth 100000 in
theorem law_c5 {r : Int32} (hL : g.2.2.2.2.2.1 ≤ 3072) (h : i + 6 ≤ g.2.2.2.2.2.1) (h11 : iX11 T 0) (h12 : iX12 T 187) (hle : T.1 ≤ T'.1 ∧ T.2.1 ≤ T'.2.1) (h1 : fX11_count T 0 (g.2.2.2.2.2.2 (i + 1)) S = some r) (h2 : fX12_count T 187 (g.2.2.2.2.2.2 (i + 1)) S = some r) (k : zg g 1312 (mL nm) T0 1147 [some (.ref 10001), some (.ref 0), some (.ref 187), some (.int (nI i))] [] T S v T' S') (hx : g.2.2.2.2.2.2 (i + 0) &&& 63 = 5) : zg g 1312 (mL nm) T0 33 [some (.ref 10001), some (.ref 0), some (.ref 187), some (.int (nI i))] [.int (g.2.2.2.2.2.2 (i + 0) &&& 63)] T S v T' S' := by
  refine z_tableIn (off := 296) (tgt := 329) dL_law_33 (by rw [hx]; decide) (by rw [hx]; decide) (by rw [hx]; rfl) (by decide) ?_
  refine z_aload_n dL_law_329 rfl ?_
  refine z_aload_n dL_law_330 rfl ?_
  refine z_iload_n dL_law_331 rfl ?_
  refine z_iconst (r := 1) dL_law_332 (by decide) ?_
  refine z_iadd dL_law_333 rfl ?_
  refine z_sld (law_v1 hL h) dL_law_334 ?_
  refine z_ti (law_x1 g.2.2.2.2.2.2 hL h) ?_
  refine z_callV (As := [.int (g.2.2.2.2.2.2 (i + 1))]) zcX11 zkL_37 ziX11_count zqX11_count h11.1 (tX11_count T 0 (g.2.2.2.2.2.2 (i + 1)) S h11 r h1) rfl rfl (Nat.le_of_ble_eq_true rfl) (by decide) ⟨Nat.le_refl _, Nat.le_refl _⟩ hle dL_law_335 ?_
  refine z_aload_n dL_law_338 rfl ?_
  refine z_aload_n dL_law_339 rfl ?_
  refine z_iload_n dL_law_340 rfl ?_
  refine z_iconst (r := 1) dL_law_341 (by decide) ?_
  refine z_iadd dL_law_342 rfl ?_
  refine z_sld (law_v1 hL h) dL_law_343 ?_
  refine z_ti (law_x1 g.2.2.2.2.2.2 hL h) ?_
  refine z_callV (As := [.int (g.2.2.2.2.2.2 (i + 1))]) zcX12 zkL_40 ziX12_count zqX12_count h12.1 (tX12_count T 187 (g.2.2.2.2.2.2 (i + 1)) S h12 r h2) rfl rfl (Nat.le_of_ble_eq_true rfl) (by decide) ⟨Nat.le_refl _, Nat.le_refl _⟩ hle dL_law_344 ?_
  refine z_icmp_eq (tgt := 1147) dL_law_347 (by decide) (fun _ => ?_) (fun q => absurd rfl q)
  exact k
set_option maxHeartbeats 4000000 in
set_option maxRecDepth 100000 in
theorem law_c6 {r : Int32} (hL : g.2.2.2.2.2.1 ≤ 3072) (h : i + 6 ≤ g.2.2.2.2.2.1) (h11 : iX11 T 0) (h12 : iX12 T 187) (hle : T.1 ≤ T'.1 ∧ T.2.1 ≤ T'.2.1) (h1 : fX11_owed T 0 (g.2.2.2.2.2.2 (i + 1)) (g.2.2.2.2.2.2 (i + 2)) S = some r) (h2 : fX12_owed T 187 (g.2.2.2.2.2.2 (i + 1)) (g.2.2.2.2.2.2 (i + 2)) S = some r) (k : zg g 1312 (mL nm) T0 1147 [some (.ref 10001), some (.ref 0), some (.ref 187), some (.int (nI i))] [] T S v T' S') (hx : g.2.2.2.2.2.2 (i + 0) &&& 63 = 6) : zg g 1312 (mL nm) T0 33 [some (.ref 10001), some (.ref 0), some (.ref 187), some (.int (nI i))] [.int (g.2.2.2.2.2.2 (i + 0) &&& 63)] T S v T' S' := by
  refine z_tableIn (off := 319) (tgt := 352) dL_law_33 (by rw [hx]; decide) (by rw [hx]; decide) (by rw [hx]; rfl) (by decide) ?_
  refine z_aload_n dL_law_352 rfl ?_
  refine z_aload_n dL_law_353 rfl ?_
  refine z_iload_n dL_law_354 rfl ?_
  refine z_iconst (r := 1) dL_law_355 (by decide) ?_
  refine z_iadd dL_law_356 rfl ?_
  refine z_sld (law_v1 hL h) dL_law_357 ?_
  refine z_ti (law_x1 g.2.2.2.2.2.2 hL h) ?_
  refine z_aload_n dL_law_358 rfl ?_
  refine z_iload_n dL_law_359 rfl ?_
  refine z_iconst (r := 2) dL_law_360 (by decide) ?_
  refine z_iadd dL_law_361 rfl ?_
  refine z_sld (law_v2 hL h) dL_law_362 ?_
  refine z_ti (law_x2 g.2.2.2.2.2.2 hL h) ?_
  refine z_callV (As := [.int (g.2.2.2.2.2.2 (i + 1)), .int (g.2.2.2.2.2.2 (i + 2))]) zcX11 zkL_41 ziX11_owed zqX11_owed h11.1 (tX11_owed T 0 (g.2.2.2.2.2.2 (i + 1)) (g.2.2.2.2.2.2 (i + 2)) S h11 r h1) rfl rfl (Nat.le_of_ble_eq_true rfl) (by decide) ⟨Nat.le_refl _, Nat.le_refl _⟩ hle dL_law_363 ?_
  refine z_aload_n dL_law_366 rfl ?_
  refine z_aload_n dL_law_367 rfl ?_
  refine z_iload_n dL_law_368 rfl ?_
  refine z_iconst (r := 1) dL_law_369 (by decide) ?_
  refine z_iadd dL_law_370 rfl ?_
  refine z_sld (law_v1 hL h) dL_law_371 ?_
  refine z_ti (law_x1 g.2.2.2.2.2.2 hL h) ?_
  refine z_aload_n dL_law_372 rfl ?_
  refine z_iload_n dL_law_373 rfl ?_
  refine z_iconst (r := 2) dL_law_374 (by decide) ?_
  refine z_iadd dL_law_375 rfl ?_
  refine z_sld (law_v2 hL h) dL_law_376 ?_
  refine z_ti (law_x2 g.2.2.2.2.2.2 hL h) ?_
  refine z_callV (As := [.int (g.2.2.2.2.2.2 (i + 1)), .int (g.2.2.2.2.2.2 (i + 2))]) zcX12 zkL_44 ziX12_owed zqX12_owed h12.1 (tX12_owed T 187 (g.2.2.2.2.2.2 (i + 1)) (g.2.2.2.2.2.2 (i + 2)) S h12 r h2) rfl rfl (Nat.le_of_ble_eq_true rfl) (by decide) ⟨Nat.le_refl _, Nat.le_refl _⟩ hle dL_law_377 ?_
  refine z_icmp_eq (tgt := 1147) dL_law_380 (by decide) (fun _ => ?_) (fun q => absurd rfl q)
  exact k
set_option maxHeartbeats 4000000 in
set_option maxRecDepth 100000 in
theorem law_c7 {r : Int32} {S1 : zS} {S2 : zS} (hL : g.2.2.2.2.2.1 ≤ 3072) (h : i + 6 ≤ g.2.2.2.2.2.1) (h11 : iX11 T 0) (h12 : iX12 T 187) (hle : T.1 ≤ T'.1 ∧ T.2.1 ≤ T'.2.1) (h1 : fX11_earned T 0 (g.2.2.2.2.2.2 (i + 1)) (g.2.2.2.2.2.2 (i + 2)) (g.2.2.2.2.2.2 (i + 3)) S = some (r, S1)) (h2 : fX12_earned T 187 (g.2.2.2.2.2.2 (i + 1)) (g.2.2.2.2.2.2 (i + 2)) (g.2.2.2.2.2.2 (i + 3)) S1 = some (r, S2)) (k : zg g 1312 (mL nm) T0 1147 [some (.ref 10001), some (.ref 0), some (.ref 187), some (.int (nI i))] [] T S2 v T' S') (hx : g.2.2.2.2.2.2 (i + 0) &&& 63 = 7) : zg g 1312 (mL nm) T0 33 [some (.ref 10001), some (.ref 0), some (.ref 187), some (.int (nI i))] [.int (g.2.2.2.2.2.2 (i + 0) &&& 63)] T S v T' S' := by
  refine z_tableIn (off := 352) (tgt := 385) dL_law_33 (by rw [hx]; decide) (by rw [hx]; decide) (by rw [hx]; rfl) (by decide) ?_
  refine z_aload_n dL_law_385 rfl ?_
  refine z_aload_n dL_law_386 rfl ?_
  refine z_iload_n dL_law_387 rfl ?_
  refine z_iconst (r := 1) dL_law_388 (by decide) ?_
  refine z_iadd dL_law_389 rfl ?_
  refine z_sld (law_v1 hL h) dL_law_390 ?_
  refine z_ti (law_x1 g.2.2.2.2.2.2 hL h) ?_
  refine z_aload_n dL_law_391 rfl ?_
  refine z_iload_n dL_law_392 rfl ?_
  refine z_iconst (r := 2) dL_law_393 (by decide) ?_
  refine z_iadd dL_law_394 rfl ?_
  refine z_sld (law_v2 hL h) dL_law_395 ?_
  refine z_ti (law_x2 g.2.2.2.2.2.2 hL h) ?_
  refine z_aload_n dL_law_396 rfl ?_
  refine z_iload_n dL_law_397 rfl ?_
  refine z_iconst (r := 3) dL_law_398 (by decide) ?_
  refine z_iadd dL_law_399 rfl ?_
  refine z_sld (law_v3 hL h) dL_law_400 ?_
  refine z_ti (law_x3 g.2.2.2.2.2.2 hL h) ?_
  refine z_callV (As := [.int (g.2.2.2.2.2.2 (i + 1)), .int (g.2.2.2.2.2.2 (i + 2)), .int (g.2.2.2.2.2.2 (i + 3))]) zcX11 zkL_45 ziX11_earned zqX11_earned h11.1 (tX11_earned T 0 (g.2.2.2.2.2.2 (i + 1)) (g.2.2.2.2.2.2 (i + 2)) (g.2.2.2.2.2.2 (i + 3)) S h11 (r, S1) h1) rfl rfl (Nat.le_of_ble_eq_true rfl) (by decide) ⟨Nat.le_refl _, Nat.le_refl _⟩ hle dL_law_401 ?_
  refine z_aload_n dL_law_404 rfl ?_
  refine z_aload_n dL_law_405 rfl ?_
  refine z_iload_n dL_law_406 rfl ?_
  refine z_iconst (r := 1) dL_law_407 (by decide) ?_
  refine z_iadd dL_law_408 rfl ?_
  refine z_sld (law_v1 hL h) dL_law_409 ?_
  refine z_ti (law_x1 g.2.2.2.2.2.2 hL h) ?_
  refine z_aload_n dL_law_410 rfl ?_
  refine z_iload_n dL_law_411 rfl ?_
  refine z_iconst (r := 2) dL_law_412 (by decide) ?_
  refine z_iadd dL_law_413 rfl ?_
  refine z_sld (law_v2 hL h) dL_law_414 ?_
  refine z_ti (law_x2 g.2.2.2.2.2.2 hL h) ?_
  refine z_aload_n dL_law_415 rfl ?_
  refine z_iload_n dL_law_416 rfl ?_
  refine z_iconst (r := 3) dL_law_417 (by decide) ?_
  refine z_iadd dL_law_418 rfl ?_
  refine z_sld (law_v3 hL h) dL_law_419 ?_
  refine z_ti (law_x3 g.2.2.2.2.2.2 hL h) ?_
  refine z_callV (As := [.int (g.2.2.2.2.2.2 (i + 1)), .int (g.2.2.2.2.2.2 (i + 2)), .int (g.2.2.2.2.2.2 (i + 3))]) zcX12 zkL_49 ziX12_earned zqX12_earned h12.1 (tX12_earned T 187 (g.2.2.2.2.2.2 (i + 1)) (g.2.2.2.2.2.2 (i + 2)) (g.2.2.2.2.2.2 (i + 3)) S1 h12 (r, S2) h2) rfl rfl (Nat.le_of_ble_eq_true rfl) (by decide) ⟨Nat.le_refl _, Nat.le_refl _⟩ hle dL_law_420 ?_
  refine z_icmp_eq (tgt := 1147) dL_law_423 (by decide) (fun _ => ?_) (fun q => absurd rfl q)
  exact k
set_option maxHeartbeats 4000000 in
set_option maxRecDepth 100000 in
theorem law_c8 {r : Int32} {S1 : zS} {S2 : zS} (hL : g.2.2.2.2.2.1 ≤ 3072) (h : i + 6 ≤ g.2.2.2.2.2.1) (h11 : iX11 T 0) (h12 : iX12 T 187) (hle : T.1 ≤ T'.1 ∧ T.2.1 ≤ T'.2.1) (h1 : fX11_act T 0 (g.2.2.2.2.2.2 (i + 1)) (g.2.2.2.2.2.2 (i + 2)) (g.2.2.2.2.2.2 (i + 3)) S = some (r, S1)) (h2 : fX12_act T 187 (g.2.2.2.2.2.2 (i + 1)) (g.2.2.2.2.2.2 (i + 2)) (g.2.2.2.2.2.2 (i + 3)) S1 = some (r, S2)) (k : zg g 1312 (mL nm) T0 1147 [some (.ref 10001), some (.ref 0), some (.ref 187), some (.int (nI i))] [] T S2 v T' S') (hx : g.2.2.2.2.2.2 (i + 0) &&& 63 = 8) : zg g 1312 (mL nm) T0 33 [some (.ref 10001), some (.ref 0), some (.ref 187), some (.int (nI i))] [.int (g.2.2.2.2.2.2 (i + 0) &&& 63)] T S v T' S' := by
  refine z_tableIn (off := 395) (tgt := 428) dL_law_33 (by rw [hx]; decide) (by rw [hx]; decide) (by rw [hx]; rfl) (by decide) ?_
  refine z_aload_n dL_law_428 rfl ?_
  refine z_aload_n dL_law_429 rfl ?_
  refine z_iload_n dL_law_430 rfl ?_
  refine z_iconst (r := 1) dL_law_431 (by decide) ?_
  refine z_iadd dL_law_432 rfl ?_
  refine z_sld (law_v1 hL h) dL_law_433 ?_
  refine z_ti (law_x1 g.2.2.2.2.2.2 hL h) ?_
  refine z_aload_n dL_law_434 rfl ?_
  refine z_iload_n dL_law_435 rfl ?_
  refine z_iconst (r := 2) dL_law_436 (by decide) ?_
  refine z_iadd dL_law_437 rfl ?_
  refine z_sld (law_v2 hL h) dL_law_438 ?_
  refine z_ti (law_x2 g.2.2.2.2.2.2 hL h) ?_
  refine z_aload_n dL_law_439 rfl ?_
  refine z_iload_n dL_law_440 rfl ?_
  refine z_iconst (r := 3) dL_law_441 (by decide) ?_
  refine z_iadd dL_law_442 rfl ?_
  refine z_sld (law_v3 hL h) dL_law_443 ?_
  refine z_ti (law_x3 g.2.2.2.2.2.2 hL h) ?_
  refine z_callV (As := [.int (g.2.2.2.2.2.2 (i + 1)), .int (g.2.2.2.2.2.2 (i + 2)), .int (g.2.2.2.2.2.2 (i + 3))]) zcX11 zkL_50 ziX11_act zqX11_act h11.1 (tX11_act T 0 (g.2.2.2.2.2.2 (i + 1)) (g.2.2.2.2.2.2 (i + 2)) (g.2.2.2.2.2.2 (i + 3)) S h11 (r, S1) h1) rfl rfl (Nat.le_of_ble_eq_true rfl) (by decide) ⟨Nat.le_refl _, Nat.le_refl _⟩ hle dL_law_444 ?_
  refine z_aload_n dL_law_447 rfl ?_
  refine z_aload_n dL_law_448 rfl ?_
  refine z_iload_n dL_law_449 rfl ?_
  refine z_iconst (r := 1) dL_law_450 (by decide) ?_
  refine z_iadd dL_law_451 rfl ?_
  refine z_sld (law_v1 hL h) dL_law_452 ?_
  refine z_ti (law_x1 g.2.2.2.2.2.2 hL h) ?_
  refine z_aload_n dL_law_453 rfl ?_
  refine z_iload_n dL_law_454 rfl ?_
  refine z_iconst (r := 2) dL_law_455 (by decide) ?_
  refine z_iadd dL_law_456 rfl ?_
  refine z_sld (law_v2 hL h) dL_law_457 ?_
  refine z_ti (law_x2 g.2.2.2.2.2.2 hL h) ?_
  refine z_aload_n dL_law_458 rfl ?_
  refine z_iload_n dL_law_459 rfl ?_
  refine z_iconst (r := 3) dL_law_460 (by decide) ?_
  refine z_iadd dL_law_461 rfl ?_
  refine z_sld (law_v3 hL h) dL_law_462 ?_
  refine z_ti (law_x3 g.2.2.2.2.2.2 hL h) ?_
  refine z_callV (As := [.int (g.2.2.2.2.2.2 (i + 1)), .int (g.2.2.2.2.2.2 (i + 2)), .int (g.2.2.2.2.2.2 (i + 3))]) zcX12 zkL_53 ziX12_act zqX12_act h12.1 (tX12_act T 187 (g.2.2.2.2.2.2 (i + 1)) (g.2.2.2.2.2.2 (i + 2)) (g.2.2.2.2.2.2 (i + 3)) S1 h12 (r, S2) h2) rfl rfl (Nat.le_of_ble_eq_true rfl) (by decide) ⟨Nat.le_refl _, Nat.le_refl _⟩ hle dL_law_463 ?_
  refine z_icmp_eq (tgt := 1147) dL_law_466 (by decide) (fun _ => ?_) (fun q => absurd rfl q)
  exact k
set_option maxHeartbeats 4000000 in
set_option maxRecDepth 100000 in
theorem law_c9 {r : Int32} {S1 : zS} {S2 : zS} (hL : g.2.2.2.2.2.1 ≤ 3072) (h : i + 6 ≤ g.2.2.2.2.2.1) (h11 : iX11 T 0) (h12 : iX12 T 187) (hle : T.1 ≤ T'.1 ∧ T.2.1 ≤ T'.2.1) (h1 : fX11_row T 0 (g.2.2.2.2.2.2 (i + 1)) S = some (r, S1)) (h2 : fX12_row T 187 (g.2.2.2.2.2.2 (i + 1)) S1 = some (r, S2)) (k : zg g 1312 (mL nm) T0 1147 [some (.ref 10001), some (.ref 0), some (.ref 187), some (.int (nI i))] [] T S2 v T' S') (hx : g.2.2.2.2.2.2 (i + 0) &&& 63 = 9) : zg g 1312 (mL nm) T0 33 [some (.ref 10001), some (.ref 0), some (.ref 187), some (.int (nI i))] [.int (g.2.2.2.2.2.2 (i + 0) &&& 63)] T S v T' S' := by
  refine z_tableIn (off := 438) (tgt := 471) dL_law_33 (by rw [hx]; decide) (by rw [hx]; decide) (by rw [hx]; rfl) (by decide) ?_
  refine z_aload_n dL_law_471 rfl ?_
  refine z_aload_n dL_law_472 rfl ?_
  refine z_iload_n dL_law_473 rfl ?_
  refine z_iconst (r := 1) dL_law_474 (by decide) ?_
  refine z_iadd dL_law_475 rfl ?_
  refine z_sld (law_v1 hL h) dL_law_476 ?_
  refine z_ti (law_x1 g.2.2.2.2.2.2 hL h) ?_
  refine z_callV (As := [.int (g.2.2.2.2.2.2 (i + 1))]) zcX11 zkL_54 ziX11_row zqX11_row h11.1 (tX11_row T 0 (g.2.2.2.2.2.2 (i + 1)) S h11 (r, S1) h1) rfl rfl (Nat.le_of_ble_eq_true rfl) (by decide) ⟨Nat.le_refl _, Nat.le_refl _⟩ hle dL_law_477 ?_
  refine z_aload_n dL_law_480 rfl ?_
  refine z_aload_n dL_law_481 rfl ?_
  refine z_iload_n dL_law_482 rfl ?_
  refine z_iconst (r := 1) dL_law_483 (by decide) ?_
  refine z_iadd dL_law_484 rfl ?_
  refine z_sld (law_v1 hL h) dL_law_485 ?_
  refine z_ti (law_x1 g.2.2.2.2.2.2 hL h) ?_
  refine z_callV (As := [.int (g.2.2.2.2.2.2 (i + 1))]) zcX12 zkL_58 ziX12_row zqX12_row h12.1 (tX12_row T 187 (g.2.2.2.2.2.2 (i + 1)) S1 h12 (r, S2) h2) rfl rfl (Nat.le_of_ble_eq_true rfl) (by decide) ⟨Nat.le_refl _, Nat.le_refl _⟩ hle dL_law_486 ?_
  refine z_icmp_eq (tgt := 1147) dL_law_489 (by decide) (fun _ => ?_) (fun q => absurd rfl q)
  exact k
set_option maxHeartbeats 4000000 in
set_option maxRecDepth 100000 in
theorem law_c10 {r : Int32} {S1 : zS} {S2 : zS} (hL : g.2.2.2.2.2.1 ≤ 3072) (h : i + 6 ≤ g.2.2.2.2.2.1) (h11 : iX11 T 0) (h12 : iX12 T 187) (hle : T.1 ≤ T'.1 ∧ T.2.1 ≤ T'.2.1) (h1 : fX11_judged T 0 (g.2.2.2.2.2.2 (i + 1)) S = some (r, S1)) (h2 : fX12_judged T 187 (g.2.2.2.2.2.2 (i + 1)) S1 = some (r, S2)) (k : zg g 1312 (mL nm) T0 1147 [some (.ref 10001), some (.ref 0), some (.ref 187), some (.int (nI i))] [] T S2 v T' S') (hx : g.2.2.2.2.2.2 (i + 0) &&& 63 = 10) : zg g 1312 (mL nm) T0 33 [some (.ref 10001), some (.ref 0), some (.ref 187), some (.int (nI i))] [.int (g.2.2.2.2.2.2 (i + 0) &&& 63)] T S v T' S' := by
  refine z_tableIn (off := 461) (tgt := 494) dL_law_33 (by rw [hx]; decide) (by rw [hx]; decide) (by rw [hx]; rfl) (by decide) ?_
  refine z_aload_n dL_law_494 rfl ?_
  refine z_aload_n dL_law_495 rfl ?_
  refine z_iload_n dL_law_496 rfl ?_
  refine z_iconst (r := 1) dL_law_497 (by decide) ?_
  refine z_iadd dL_law_498 rfl ?_
  refine z_sld (law_v1 hL h) dL_law_499 ?_
  refine z_ti (law_x1 g.2.2.2.2.2.2 hL h) ?_
  refine z_callV (As := [.int (g.2.2.2.2.2.2 (i + 1))]) zcX11 zkL_59 ziX11_judged zqX11_judged h11.1 (tX11_judged T 0 (g.2.2.2.2.2.2 (i + 1)) S h11 (r, S1) h1) rfl rfl (Nat.le_of_ble_eq_true rfl) (by decide) ⟨Nat.le_refl _, Nat.le_refl _⟩ hle dL_law_500 ?_
  refine z_aload_n dL_law_503 rfl ?_
  refine z_aload_n dL_law_504 rfl ?_
  refine z_iload_n dL_law_505 rfl ?_
  refine z_iconst (r := 1) dL_law_506 (by decide) ?_
  refine z_iadd dL_law_507 rfl ?_
  refine z_sld (law_v1 hL h) dL_law_508 ?_
  refine z_ti (law_x1 g.2.2.2.2.2.2 hL h) ?_
  refine z_callV (As := [.int (g.2.2.2.2.2.2 (i + 1))]) zcX12 zkL_62 ziX12_judged zqX12_judged h12.1 (tX12_judged T 187 (g.2.2.2.2.2.2 (i + 1)) S1 h12 (r, S2) h2) rfl rfl (Nat.le_of_ble_eq_true rfl) (by decide) ⟨Nat.le_refl _, Nat.le_refl _⟩ hle dL_law_509 ?_
  refine z_icmp_eq (tgt := 1147) dL_law_512 (by decide) (fun _ => ?_) (fun q => absurd rfl q)
  exact k
set_option maxHeartbeats 4000000 in
set_option maxRecDepth 100000 in
theorem law_c11 {r : Int32} {S1 : zS} {S2 : zS} (hL : g.2.2.2.2.2.1 ≤ 3072) (h : i + 6 ≤ g.2.2.2.2.2.1) (h11 : iX11 T 0) (h12 : iX12 T 187) (hle : T.1 ≤ T'.1 ∧ T.2.1 ≤ T'.2.1) (h1 : fX11_then T 0 (g.2.2.2.2.2.2 (i + 1)) (g.2.2.2.2.2.2 (i + 2)) S = some (r, S1)) (h2 : fX12_then T 187 (g.2.2.2.2.2.2 (i + 1)) (g.2.2.2.2.2.2 (i + 2)) S1 = some (r, S2)) (k : zg g 1312 (mL nm) T0 1147 [some (.ref 10001), some (.ref 0), some (.ref 187), some (.int (nI i))] [] T S2 v T' S') (hx : g.2.2.2.2.2.2 (i + 0) &&& 63 = 11) : zg g 1312 (mL nm) T0 33 [some (.ref 10001), some (.ref 0), some (.ref 187), some (.int (nI i))] [.int (g.2.2.2.2.2.2 (i + 0) &&& 63)] T S v T' S' := by
  refine z_tableIn (off := 484) (tgt := 517) dL_law_33 (by rw [hx]; decide) (by rw [hx]; decide) (by rw [hx]; rfl) (by decide) ?_
  refine z_aload_n dL_law_517 rfl ?_
  refine z_aload_n dL_law_518 rfl ?_
  refine z_iload_n dL_law_519 rfl ?_
  refine z_iconst (r := 1) dL_law_520 (by decide) ?_
  refine z_iadd dL_law_521 rfl ?_
  refine z_sld (law_v1 hL h) dL_law_522 ?_
  refine z_ti (law_x1 g.2.2.2.2.2.2 hL h) ?_
  refine z_aload_n dL_law_523 rfl ?_
  refine z_iload_n dL_law_524 rfl ?_
  refine z_iconst (r := 2) dL_law_525 (by decide) ?_
  refine z_iadd dL_law_526 rfl ?_
  refine z_sld (law_v2 hL h) dL_law_527 ?_
  refine z_ti (law_x2 g.2.2.2.2.2.2 hL h) ?_
  refine z_callV (As := [.int (g.2.2.2.2.2.2 (i + 1)), .int (g.2.2.2.2.2.2 (i + 2))]) zcX11 zkL_63 ziX11_then zqX11_then h11.1 (tX11_then T 0 (g.2.2.2.2.2.2 (i + 1)) (g.2.2.2.2.2.2 (i + 2)) S h11 (r, S1) h1) rfl rfl (Nat.le_of_ble_eq_true rfl) (by decide) ⟨Nat.le_refl _, Nat.le_refl _⟩ hle dL_law_528 ?_
  refine z_aload_n dL_law_531 rfl ?_
  refine z_aload_n dL_law_532 rfl ?_
  refine z_iload_n dL_law_533 rfl ?_
  refine z_iconst (r := 1) dL_law_534 (by decide) ?_
  refine z_iadd dL_law_535 rfl ?_
  refine z_sld (law_v1 hL h) dL_law_536 ?_
  refine z_ti (law_x1 g.2.2.2.2.2.2 hL h) ?_
  refine z_aload_n dL_law_537 rfl ?_
  refine z_iload_n dL_law_538 rfl ?_
  refine z_iconst (r := 2) dL_law_539 (by decide) ?_
  refine z_iadd dL_law_540 rfl ?_
  refine z_sld (law_v2 hL h) dL_law_541 ?_
  refine z_ti (law_x2 g.2.2.2.2.2.2 hL h) ?_
  refine z_callV (As := [.int (g.2.2.2.2.2.2 (i + 1)), .int (g.2.2.2.2.2.2 (i + 2))]) zcX12 zkL_66 ziX12_then zqX12_then h12.1 (tX12_then T 187 (g.2.2.2.2.2.2 (i + 1)) (g.2.2.2.2.2.2 (i + 2)) S1 h12 (r, S2) h2) rfl rfl (Nat.le_of_ble_eq_true rfl) (by decide) ⟨Nat.le_refl _, Nat.le_refl _⟩ hle dL_law_542 ?_
  refine z_icmp_eq (tgt := 1147) dL_law_545 (by decide) (fun _ => ?_) (fun q => absurd rfl q)
  exact k
set_option maxHeartbeats 4000000 in
set_option maxRecDepth 100000 in
theorem law_c12 {r : Int32} {S1 : zS} {S2 : zS} (hL : g.2.2.2.2.2.1 ≤ 3072) (h : i + 6 ≤ g.2.2.2.2.2.1) (h11 : iX11 T 0) (h12 : iX12 T 187) (hle : T.1 ≤ T'.1 ∧ T.2.1 ≤ T'.2.1) (h1 : fX11_soon T 0 S = some (r, S1)) (h2 : fX12_soon T 187 S1 = some (r, S2)) (k : zg g 1312 (mL nm) T0 1147 [some (.ref 10001), some (.ref 0), some (.ref 187), some (.int (nI i))] [] T S2 v T' S') (hx : g.2.2.2.2.2.2 (i + 0) &&& 63 = 12) : zg g 1312 (mL nm) T0 33 [some (.ref 10001), some (.ref 0), some (.ref 187), some (.int (nI i))] [.int (g.2.2.2.2.2.2 (i + 0) &&& 63)] T S v T' S' := by
  refine z_tableIn (off := 517) (tgt := 550) dL_law_33 (by rw [hx]; decide) (by rw [hx]; decide) (by rw [hx]; rfl) (by decide) ?_
  refine z_aload_n dL_law_550 rfl ?_
  refine z_callV (As := []) zcX11 zkL_67 ziX11_soon zqX11_soon h11.1 (tX11_soon T 0  S h11 (r, S1) h1) rfl rfl (Nat.le_of_ble_eq_true rfl) (by decide) ⟨Nat.le_refl _, Nat.le_refl _⟩ hle dL_law_551 ?_
  refine z_aload_n dL_law_554 rfl ?_
  refine z_callV (As := []) zcX12 zkL_70 ziX12_soon zqX12_soon h12.1 (tX12_soon T 187  S1 h12 (r, S2) h2) rfl rfl (Nat.le_of_ble_eq_true rfl) (by decide) ⟨Nat.le_refl _, Nat.le_refl _⟩ hle dL_law_555 ?_
  refine z_icmp_eq (tgt := 1147) dL_law_558 (by decide) (fun _ => ?_) (fun q => absurd rfl q)
  exact k
set_option maxHeartbeats 4000000 in
set_option maxRecDepth 100000 in
theorem law_c13 {r : Int32} {S1 : zS} {S2 : zS} (hL : g.2.2.2.2.2.1 ≤ 3072) (h : i + 6 ≤ g.2.2.2.2.2.1) (h11 : iX11 T 0) (h12 : iX12 T 187) (hle : T.1 ≤ T'.1 ∧ T.2.1 ≤ T'.2.1) (h1 : fX11_best T 0 (g.2.2.2.2.2.2 (i + 1)) S = some (r, S1)) (h2 : fX12_best T 187 (g.2.2.2.2.2.2 (i + 1)) S1 = some (r, S2)) (k : zg g 1312 (mL nm) T0 1147 [some (.ref 10001), some (.ref 0), some (.ref 187), some (.int (nI i))] [] T S2 v T' S') (hx : g.2.2.2.2.2.2 (i + 0) &&& 63 = 13) : zg g 1312 (mL nm) T0 33 [some (.ref 10001), some (.ref 0), some (.ref 187), some (.int (nI i))] [.int (g.2.2.2.2.2.2 (i + 0) &&& 63)] T S v T' S' := by
  refine z_tableIn (off := 530) (tgt := 563) dL_law_33 (by rw [hx]; decide) (by rw [hx]; decide) (by rw [hx]; rfl) (by decide) ?_
  refine z_aload_n dL_law_563 rfl ?_
  refine z_aload_n dL_law_564 rfl ?_
  refine z_iload_n dL_law_565 rfl ?_
  refine z_iconst (r := 1) dL_law_566 (by decide) ?_
  refine z_iadd dL_law_567 rfl ?_
  refine z_sld (law_v1 hL h) dL_law_568 ?_
  refine z_ti (law_x1 g.2.2.2.2.2.2 hL h) ?_
  refine z_callV (As := [.int (g.2.2.2.2.2.2 (i + 1))]) zcX11 zkL_71 ziX11_best zqX11_best h11.1 (tX11_best T 0 (g.2.2.2.2.2.2 (i + 1)) S h11 (r, S1) h1) rfl rfl (Nat.le_of_ble_eq_true rfl) (by decide) ⟨Nat.le_refl _, Nat.le_refl _⟩ hle dL_law_569 ?_
  refine z_aload_n dL_law_572 rfl ?_
  refine z_aload_n dL_law_573 rfl ?_
  refine z_iload_n dL_law_574 rfl ?_
  refine z_iconst (r := 1) dL_law_575 (by decide) ?_
  refine z_iadd dL_law_576 rfl ?_
  refine z_sld (law_v1 hL h) dL_law_577 ?_
  refine z_ti (law_x1 g.2.2.2.2.2.2 hL h) ?_
  refine z_callV (As := [.int (g.2.2.2.2.2.2 (i + 1))]) zcX12 zkL_74 ziX12_best zqX12_best h12.1 (tX12_best T 187 (g.2.2.2.2.2.2 (i + 1)) S1 h12 (r, S2) h2) rfl rfl (Nat.le_of_ble_eq_true rfl) (by decide) ⟨Nat.le_refl _, Nat.le_refl _⟩ hle dL_law_578 ?_
  refine z_icmp_eq (tgt := 1147) dL_law_581 (by decide) (fun _ => ?_) (fun q => absurd rfl q)
  exact k
set_option maxHeartbeats 4000000 in
set_option maxRecDepth 100000 in
theorem law_c14 {r : Int32} {S1 : zS} {S2 : zS} (hL : g.2.2.2.2.2.1 ≤ 3072) (h : i + 6 ≤ g.2.2.2.2.2.1) (h11 : iX11 T 0) (h12 : iX12 T 187) (hle : T.1 ≤ T'.1 ∧ T.2.1 ≤ T'.2.1) (h1 : fX11_fetched T 0 (g.2.2.2.2.2.2 (i + 1)) S = some (r, S1)) (h2 : fX12_fetched T 187 (g.2.2.2.2.2.2 (i + 1)) S1 = some (r, S2)) (k : zg g 1312 (mL nm) T0 1147 [some (.ref 10001), some (.ref 0), some (.ref 187), some (.int (nI i))] [] T S2 v T' S') (hx : g.2.2.2.2.2.2 (i + 0) &&& 63 = 14) : zg g 1312 (mL nm) T0 33 [some (.ref 10001), some (.ref 0), some (.ref 187), some (.int (nI i))] [.int (g.2.2.2.2.2.2 (i + 0) &&& 63)] T S v T' S' := by
  refine z_tableIn (off := 553) (tgt := 586) dL_law_33 (by rw [hx]; decide) (by rw [hx]; decide) (by rw [hx]; rfl) (by decide) ?_
  refine z_aload_n dL_law_586 rfl ?_
  refine z_aload_n dL_law_587 rfl ?_
  refine z_iload_n dL_law_588 rfl ?_
  refine z_iconst (r := 1) dL_law_589 (by decide) ?_
  refine z_iadd dL_law_590 rfl ?_
  refine z_sld (law_v1 hL h) dL_law_591 ?_
  refine z_ti (law_x1 g.2.2.2.2.2.2 hL h) ?_
  refine z_callV (As := [.int (g.2.2.2.2.2.2 (i + 1))]) zcX11 zkL_75 ziX11_fetched zqX11_fetched h11.1 (tX11_fetched T 0 (g.2.2.2.2.2.2 (i + 1)) S h11 (r, S1) h1) rfl rfl (Nat.le_of_ble_eq_true rfl) (by decide) ⟨Nat.le_refl _, Nat.le_refl _⟩ hle dL_law_592 ?_
  refine z_aload_n dL_law_595 rfl ?_
  refine z_aload_n dL_law_596 rfl ?_
  refine z_iload_n dL_law_597 rfl ?_
  refine z_iconst (r := 1) dL_law_598 (by decide) ?_
  refine z_iadd dL_law_599 rfl ?_
  refine z_sld (law_v1 hL h) dL_law_600 ?_
  refine z_ti (law_x1 g.2.2.2.2.2.2 hL h) ?_
  refine z_callV (As := [.int (g.2.2.2.2.2.2 (i + 1))]) zcX12 zkL_78 ziX12_fetched zqX12_fetched h12.1 (tX12_fetched T 187 (g.2.2.2.2.2.2 (i + 1)) S1 h12 (r, S2) h2) rfl rfl (Nat.le_of_ble_eq_true rfl) (by decide) ⟨Nat.le_refl _, Nat.le_refl _⟩ hle dL_law_601 ?_
  refine z_icmp_eq (tgt := 1147) dL_law_604 (by decide) (fun _ => ?_) (fun q => absurd rfl q)
  exact k
set_option maxHeartbeats 4000000 in
set_option maxRecDepth 100000 in
theorem law_c15 {r : Int32} {S1 : zS} {S2 : zS} (hL : g.2.2.2.2.2.1 ≤ 3072) (h : i + 6 ≤ g.2.2.2.2.2.1) (h11 : iX11 T 0) (h12 : iX12 T 187) (hle : T.1 ≤ T'.1 ∧ T.2.1 ≤ T'.2.1) (h1 : fX11_hangs T 0 (g.2.2.2.2.2.2 (i + 1)) S = some (r, S1)) (h2 : fX12_hangs T 187 (g.2.2.2.2.2.2 (i + 1)) S1 = some (r, S2)) (k : zg g 1312 (mL nm) T0 1147 [some (.ref 10001), some (.ref 0), some (.ref 187), some (.int (nI i))] [] T S2 v T' S') (hx : g.2.2.2.2.2.2 (i + 0) &&& 63 = 15) : zg g 1312 (mL nm) T0 33 [some (.ref 10001), some (.ref 0), some (.ref 187), some (.int (nI i))] [.int (g.2.2.2.2.2.2 (i + 0) &&& 63)] T S v T' S' := by
  refine z_tableIn (off := 576) (tgt := 609) dL_law_33 (by rw [hx]; decide) (by rw [hx]; decide) (by rw [hx]; rfl) (by decide) ?_
  refine z_aload_n dL_law_609 rfl ?_
  refine z_aload_n dL_law_610 rfl ?_
  refine z_iload_n dL_law_611 rfl ?_
  refine z_iconst (r := 1) dL_law_612 (by decide) ?_
  refine z_iadd dL_law_613 rfl ?_
  refine z_sld (law_v1 hL h) dL_law_614 ?_
  refine z_ti (law_x1 g.2.2.2.2.2.2 hL h) ?_
  refine z_callV (As := [.int (g.2.2.2.2.2.2 (i + 1))]) zcX11 zkL_79 ziX11_hangs zqX11_hangs h11.1 (tX11_hangs T 0 (g.2.2.2.2.2.2 (i + 1)) S h11 (r, S1) h1) rfl rfl (Nat.le_of_ble_eq_true rfl) (by decide) ⟨Nat.le_refl _, Nat.le_refl _⟩ hle dL_law_615 ?_
  refine z_aload_n dL_law_618 rfl ?_
  refine z_aload_n dL_law_619 rfl ?_
  refine z_iload_n dL_law_620 rfl ?_
  refine z_iconst (r := 1) dL_law_621 (by decide) ?_
  refine z_iadd dL_law_622 rfl ?_
  refine z_sld (law_v1 hL h) dL_law_623 ?_
  refine z_ti (law_x1 g.2.2.2.2.2.2 hL h) ?_
  refine z_callV (As := [.int (g.2.2.2.2.2.2 (i + 1))]) zcX12 zkL_82 ziX12_hangs zqX12_hangs h12.1 (tX12_hangs T 187 (g.2.2.2.2.2.2 (i + 1)) S1 h12 (r, S2) h2) rfl rfl (Nat.le_of_ble_eq_true rfl) (by decide) ⟨Nat.le_refl _, Nat.le_refl _⟩ hle dL_law_624 ?_
  refine z_icmp_eq (tgt := 1147) dL_law_627 (by decide) (fun _ => ?_) (fun q => absurd rfl q)
  exact k
set_option maxHeartbeats 4000000 in
set_option maxRecDepth 100000 in
theorem law_c16 {r : Int32} {S1 : zS} {S2 : zS} (hL : g.2.2.2.2.2.1 ≤ 3072) (h : i + 6 ≤ g.2.2.2.2.2.1) (h11 : iX11 T 0) (h12 : iX12 T 187) (hle : T.1 ≤ T'.1 ∧ T.2.1 ≤ T'.2.1) (h1 : fX11_key T 0 S = some (r, S1)) (h2 : fX12_key T 187 S1 = some (r, S2)) (k : zg g 1312 (mL nm) T0 1147 [some (.ref 10001), some (.ref 0), some (.ref 187), some (.int (nI i))] [] T S2 v T' S') (hx : g.2.2.2.2.2.2 (i + 0) &&& 63 = 16) : zg g 1312 (mL nm) T0 33 [some (.ref 10001), some (.ref 0), some (.ref 187), some (.int (nI i))] [.int (g.2.2.2.2.2.2 (i + 0) &&& 63)] T S v T' S' := by
  refine z_tableIn (off := 599) (tgt := 632) dL_law_33 (by rw [hx]; decide) (by rw [hx]; decide) (by rw [hx]; rfl) (by decide) ?_
  refine z_aload_n dL_law_632 rfl ?_
  refine z_callV (As := []) zcX11 zkL_83 ziX11_key zqX11_key h11.1 (tX11_key T 0  S h11 (r, S1) h1) rfl rfl (Nat.le_of_ble_eq_true rfl) (by decide) ⟨Nat.le_refl _, Nat.le_refl _⟩ hle dL_law_633 ?_
  refine z_aload_n dL_law_636 rfl ?_
  refine z_callV (As := []) zcX12 zkL_86 ziX12_key zqX12_key h12.1 (tX12_key T 187  S1 h12 (r, S2) h2) rfl rfl (Nat.le_of_ble_eq_true rfl) (by decide) ⟨Nat.le_refl _, Nat.le_refl _⟩ hle dL_law_637 ?_
  refine z_icmp_eq (tgt := 1147) dL_law_640 (by decide) (fun _ => ?_) (fun q => absurd rfl q)
  exact k
set_option maxHeartbeats 4000000 in
set_option maxRecDepth 100000 in
theorem law_c17 {r : Int32} {S1 : zS} {S2 : zS} (hL : g.2.2.2.2.2.1 ≤ 3072) (h : i + 6 ≤ g.2.2.2.2.2.1) (h11 : iX11 T 0) (h12 : iX12 T 187) (hle : T.1 ≤ T'.1 ∧ T.2.1 ≤ T'.2.1) (h1 : fX11_wise T 0 (g.2.2.2.2.2.2 (i + 1)) S = some (r, S1)) (h2 : fX12_wise T 187 (g.2.2.2.2.2.2 (i + 1)) S1 = some (r, S2)) (k : zg g 1312 (mL nm) T0 1147 [some (.ref 10001), some (.ref 0), some (.ref 187), some (.int (nI i))] [] T S2 v T' S') (hx : g.2.2.2.2.2.2 (i + 0) &&& 63 = 17) : zg g 1312 (mL nm) T0 33 [some (.ref 10001), some (.ref 0), some (.ref 187), some (.int (nI i))] [.int (g.2.2.2.2.2.2 (i + 0) &&& 63)] T S v T' S' := by
  refine z_tableIn (off := 612) (tgt := 645) dL_law_33 (by rw [hx]; decide) (by rw [hx]; decide) (by rw [hx]; rfl) (by decide) ?_
  refine z_aload_n dL_law_645 rfl ?_
  refine z_aload_n dL_law_646 rfl ?_
  refine z_iload_n dL_law_647 rfl ?_
  refine z_iconst (r := 1) dL_law_648 (by decide) ?_
  refine z_iadd dL_law_649 rfl ?_
  refine z_sld (law_v1 hL h) dL_law_650 ?_
  refine z_ti (law_x1 g.2.2.2.2.2.2 hL h) ?_
  refine z_callV (As := [.int (g.2.2.2.2.2.2 (i + 1))]) zcX11 zkL_87 ziX11_wise zqX11_wise h11.1 (tX11_wise T 0 (g.2.2.2.2.2.2 (i + 1)) S h11 (r, S1) h1) rfl rfl (Nat.le_of_ble_eq_true rfl) (by decide) ⟨Nat.le_refl _, Nat.le_refl _⟩ hle dL_law_651 ?_
  refine z_aload_n dL_law_654 rfl ?_
  refine z_aload_n dL_law_655 rfl ?_
  refine z_iload_n dL_law_656 rfl ?_
  refine z_iconst (r := 1) dL_law_657 (by decide) ?_
  refine z_iadd dL_law_658 rfl ?_
  refine z_sld (law_v1 hL h) dL_law_659 ?_
  refine z_ti (law_x1 g.2.2.2.2.2.2 hL h) ?_
  refine z_callV (As := [.int (g.2.2.2.2.2.2 (i + 1))]) zcX12 zkL_90 ziX12_wise zqX12_wise h12.1 (tX12_wise T 187 (g.2.2.2.2.2.2 (i + 1)) S1 h12 (r, S2) h2) rfl rfl (Nat.le_of_ble_eq_true rfl) (by decide) ⟨Nat.le_refl _, Nat.le_refl _⟩ hle dL_law_660 ?_
  refine z_icmp_eq (tgt := 1147) dL_law_663 (by decide) (fun _ => ?_) (fun q => absurd rfl q)
  exact k
set_option maxHeartbeats 4000000 in
set_option maxRecDepth 100000 in
theorem law_c18 {r : Int32} {S1 : zS} {S2 : zS} (hL : g.2.2.2.2.2.1 ≤ 3072) (h : i + 6 ≤ g.2.2.2.2.2.1) (h11 : iX11 T 0) (h12 : iX12 T 187) (hle : T.1 ≤ T'.1 ∧ T.2.1 ≤ T'.2.1) (h1 : fX11_borrowed T 0 (g.2.2.2.2.2.2 (i + 1)) S = some (r, S1)) (h2 : fX12_borrowed T 187 (g.2.2.2.2.2.2 (i + 1)) S1 = some (r, S2)) (k : zg g 1312 (mL nm) T0 1147 [some (.ref 10001), some (.ref 0), some (.ref 187), some (.int (nI i))] [] T S2 v T' S') (hx : g.2.2.2.2.2.2 (i + 0) &&& 63 = 18) : zg g 1312 (mL nm) T0 33 [some (.ref 10001), some (.ref 0), some (.ref 187), some (.int (nI i))] [.int (g.2.2.2.2.2.2 (i + 0) &&& 63)] T S v T' S' := by
  refine z_tableIn (off := 635) (tgt := 668) dL_law_33 (by rw [hx]; decide) (by rw [hx]; decide) (by rw [hx]; rfl) (by decide) ?_
  refine z_aload_n dL_law_668 rfl ?_
  refine z_aload_n dL_law_669 rfl ?_
  refine z_iload_n dL_law_670 rfl ?_
  refine z_iconst (r := 1) dL_law_671 (by decide) ?_
  refine z_iadd dL_law_672 rfl ?_
  refine z_sld (law_v1 hL h) dL_law_673 ?_
  refine z_ti (law_x1 g.2.2.2.2.2.2 hL h) ?_
  refine z_callV (As := [.int (g.2.2.2.2.2.2 (i + 1))]) zcX11 zkL_91 ziX11_borrowed zqX11_borrowed h11.1 (tX11_borrowed T 0 (g.2.2.2.2.2.2 (i + 1)) S h11 (r, S1) h1) rfl rfl (Nat.le_of_ble_eq_true rfl) (by decide) ⟨Nat.le_refl _, Nat.le_refl _⟩ hle dL_law_674 ?_
  refine z_aload_n dL_law_677 rfl ?_
  refine z_aload_n dL_law_678 rfl ?_
  refine z_iload_n dL_law_679 rfl ?_
  refine z_iconst (r := 1) dL_law_680 (by decide) ?_
  refine z_iadd dL_law_681 rfl ?_
  refine z_sld (law_v1 hL h) dL_law_682 ?_
  refine z_ti (law_x1 g.2.2.2.2.2.2 hL h) ?_
  refine z_callV (As := [.int (g.2.2.2.2.2.2 (i + 1))]) zcX12 zkL_94 ziX12_borrowed zqX12_borrowed h12.1 (tX12_borrowed T 187 (g.2.2.2.2.2.2 (i + 1)) S1 h12 (r, S2) h2) rfl rfl (Nat.le_of_ble_eq_true rfl) (by decide) ⟨Nat.le_refl _, Nat.le_refl _⟩ hle dL_law_683 ?_
  refine z_icmp_eq (tgt := 1147) dL_law_686 (by decide) (fun _ => ?_) (fun q => absurd rfl q)
  exact k
set_option maxHeartbeats 4000000 in
set_option maxRecDepth 100000 in
theorem law_c19 {r : Int32} {S1 : zS} {S2 : zS} (hL : g.2.2.2.2.2.1 ≤ 3072) (h : i + 6 ≤ g.2.2.2.2.2.1) (h11 : iX11 T 0) (h12 : iX12 T 187) (hle : T.1 ≤ T'.1 ∧ T.2.1 ≤ T'.2.1) (h1 : fX11_when T 0 S = some (r, S1)) (h2 : fX12_when T 187 S1 = some (r, S2)) (k : zg g 1312 (mL nm) T0 1147 [some (.ref 10001), some (.ref 0), some (.ref 187), some (.int (nI i))] [] T S2 v T' S') (hx : g.2.2.2.2.2.2 (i + 0) &&& 63 = 19) : zg g 1312 (mL nm) T0 33 [some (.ref 10001), some (.ref 0), some (.ref 187), some (.int (nI i))] [.int (g.2.2.2.2.2.2 (i + 0) &&& 63)] T S v T' S' := by
  refine z_tableIn (off := 658) (tgt := 691) dL_law_33 (by rw [hx]; decide) (by rw [hx]; decide) (by rw [hx]; rfl) (by decide) ?_
  refine z_aload_n dL_law_691 rfl ?_
  refine z_callV (As := []) zcX11 zkL_95 ziX11_when zqX11_when h11.1 (tX11_when T 0  S h11 (r, S1) h1) rfl rfl (Nat.le_of_ble_eq_true rfl) (by decide) ⟨Nat.le_refl _, Nat.le_refl _⟩ hle dL_law_692 ?_
  refine z_aload_n dL_law_695 rfl ?_
  refine z_callV (As := []) zcX12 zkL_98 ziX12_when zqX12_when h12.1 (tX12_when T 187  S1 h12 (r, S2) h2) rfl rfl (Nat.le_of_ble_eq_true rfl) (by decide) ⟨Nat.le_refl _, Nat.le_refl _⟩ hle dL_law_696 ?_
  refine z_icmp_eq (tgt := 1147) dL_law_699 (by decide) (fun _ => ?_) (fun q => absurd rfl q)
  exact k
set_option maxHeartbeats 4000000 in
set_option maxRecDepth 100000 in
theorem law_c20 {r : Int32} {S1 : zS} {S2 : zS} (hL : g.2.2.2.2.2.1 ≤ 3072) (h : i + 6 ≤ g.2.2.2.2.2.1) (h11 : iX11 T 0) (h12 : iX12 T 187) (hle : T.1 ≤ T'.1 ∧ T.2.1 ≤ T'.2.1) (h1 : fX11_sold T 0 (g.2.2.2.2.2.2 (i + 1)) (g.2.2.2.2.2.2 (i + 2)) S = some (r, S1)) (h2 : fX12_sold T 187 (g.2.2.2.2.2.2 (i + 1)) (g.2.2.2.2.2.2 (i + 2)) S1 = some (r, S2)) (k : zg g 1312 (mL nm) T0 1147 [some (.ref 10001), some (.ref 0), some (.ref 187), some (.int (nI i))] [] T S2 v T' S') (hx : g.2.2.2.2.2.2 (i + 0) &&& 63 = 20) : zg g 1312 (mL nm) T0 33 [some (.ref 10001), some (.ref 0), some (.ref 187), some (.int (nI i))] [.int (g.2.2.2.2.2.2 (i + 0) &&& 63)] T S v T' S' := by
  refine z_tableIn (off := 671) (tgt := 704) dL_law_33 (by rw [hx]; decide) (by rw [hx]; decide) (by rw [hx]; rfl) (by decide) ?_
  refine z_aload_n dL_law_704 rfl ?_
  refine z_aload_n dL_law_705 rfl ?_
  refine z_iload_n dL_law_706 rfl ?_
  refine z_iconst (r := 1) dL_law_707 (by decide) ?_
  refine z_iadd dL_law_708 rfl ?_
  refine z_sld (law_v1 hL h) dL_law_709 ?_
  refine z_ti (law_x1 g.2.2.2.2.2.2 hL h) ?_
  refine z_aload_n dL_law_710 rfl ?_
  refine z_iload_n dL_law_711 rfl ?_
  refine z_iconst (r := 2) dL_law_712 (by decide) ?_
  refine z_iadd dL_law_713 rfl ?_
  refine z_sld (law_v2 hL h) dL_law_714 ?_
  refine z_ti (law_x2 g.2.2.2.2.2.2 hL h) ?_
  refine z_callV (As := [.int (g.2.2.2.2.2.2 (i + 1)), .int (g.2.2.2.2.2.2 (i + 2))]) zcX11 zkL_99 ziX11_sold zqX11_sold h11.1 (tX11_sold T 0 (g.2.2.2.2.2.2 (i + 1)) (g.2.2.2.2.2.2 (i + 2)) S h11 (r, S1) h1) rfl rfl (Nat.le_of_ble_eq_true rfl) (by decide) ⟨Nat.le_refl _, Nat.le_refl _⟩ hle dL_law_715 ?_
  refine z_aload_n dL_law_718 rfl ?_
  refine z_aload_n dL_law_719 rfl ?_
  refine z_iload_n dL_law_720 rfl ?_
  refine z_iconst (r := 1) dL_law_721 (by decide) ?_
  refine z_iadd dL_law_722 rfl ?_
  refine z_sld (law_v1 hL h) dL_law_723 ?_
  refine z_ti (law_x1 g.2.2.2.2.2.2 hL h) ?_
  refine z_aload_n dL_law_724 rfl ?_
  refine z_iload_n dL_law_725 rfl ?_
  refine z_iconst (r := 2) dL_law_726 (by decide) ?_
  refine z_iadd dL_law_727 rfl ?_
  refine z_sld (law_v2 hL h) dL_law_728 ?_
  refine z_ti (law_x2 g.2.2.2.2.2.2 hL h) ?_
  refine z_callV (As := [.int (g.2.2.2.2.2.2 (i + 1)), .int (g.2.2.2.2.2.2 (i + 2))]) zcX12 zkL_102 ziX12_sold zqX12_sold h12.1 (tX12_sold T 187 (g.2.2.2.2.2.2 (i + 1)) (g.2.2.2.2.2.2 (i + 2)) S1 h12 (r, S2) h2) rfl rfl (Nat.le_of_ble_eq_true rfl) (by decide) ⟨Nat.le_refl _, Nat.le_refl _⟩ hle dL_law_729 ?_
  refine z_icmp_eq (tgt := 1147) dL_law_732 (by decide) (fun _ => ?_) (fun q => absurd rfl q)
  exact k
set_option maxHeartbeats 4000000 in
set_option maxRecDepth 100000 in
theorem law_c21 {r : Int32} {S1 : zS} {S2 : zS} (hL : g.2.2.2.2.2.1 ≤ 3072) (h : i + 6 ≤ g.2.2.2.2.2.1) (h11 : iX11 T 0) (h12 : iX12 T 187) (hle : T.1 ≤ T'.1 ∧ T.2.1 ≤ T'.2.1) (h1 : fX11_selling T 0 (g.2.2.2.2.2.2 (i + 1)) S = some (r, S1)) (h2 : fX12_selling T 187 (g.2.2.2.2.2.2 (i + 1)) S1 = some (r, S2)) (k : zg g 1312 (mL nm) T0 1147 [some (.ref 10001), some (.ref 0), some (.ref 187), some (.int (nI i))] [] T S2 v T' S') (hx : g.2.2.2.2.2.2 (i + 0) &&& 63 = 21) : zg g 1312 (mL nm) T0 33 [some (.ref 10001), some (.ref 0), some (.ref 187), some (.int (nI i))] [.int (g.2.2.2.2.2.2 (i + 0) &&& 63)] T S v T' S' := by
  refine z_tableIn (off := 704) (tgt := 737) dL_law_33 (by rw [hx]; decide) (by rw [hx]; decide) (by rw [hx]; rfl) (by decide) ?_
  refine z_aload_n dL_law_737 rfl ?_
  refine z_aload_n dL_law_738 rfl ?_
  refine z_iload_n dL_law_739 rfl ?_
  refine z_iconst (r := 1) dL_law_740 (by decide) ?_
  refine z_iadd dL_law_741 rfl ?_
  refine z_sld (law_v1 hL h) dL_law_742 ?_
  refine z_ti (law_x1 g.2.2.2.2.2.2 hL h) ?_
  refine z_callV (As := [.int (g.2.2.2.2.2.2 (i + 1))]) zcX11 zkL_103 ziX11_selling zqX11_selling h11.1 (tX11_selling T 0 (g.2.2.2.2.2.2 (i + 1)) S h11 (r, S1) h1) rfl rfl (Nat.le_of_ble_eq_true rfl) (by decide) ⟨Nat.le_refl _, Nat.le_refl _⟩ hle dL_law_743 ?_
  refine z_aload_n dL_law_746 rfl ?_
  refine z_aload_n dL_law_747 rfl ?_
  refine z_iload_n dL_law_748 rfl ?_
  refine z_iconst (r := 1) dL_law_749 (by decide) ?_
  refine z_iadd dL_law_750 rfl ?_
  refine z_sld (law_v1 hL h) dL_law_751 ?_
  refine z_ti (law_x1 g.2.2.2.2.2.2 hL h) ?_
  refine z_callV (As := [.int (g.2.2.2.2.2.2 (i + 1))]) zcX12 zkL_106 ziX12_selling zqX12_selling h12.1 (tX12_selling T 187 (g.2.2.2.2.2.2 (i + 1)) S1 h12 (r, S2) h2) rfl rfl (Nat.le_of_ble_eq_true rfl) (by decide) ⟨Nat.le_refl _, Nat.le_refl _⟩ hle dL_law_752 ?_
  refine z_icmp_eq (tgt := 1147) dL_law_755 (by decide) (fun _ => ?_) (fun q => absurd rfl q)
  exact k
set_option maxHeartbeats 4000000 in
set_option maxRecDepth 100000 in
theorem law_c22 {r : Int64} {S1 : zS} {S2 : zS} (hL : g.2.2.2.2.2.1 ≤ 3072) (h : i + 6 ≤ g.2.2.2.2.2.1) (h11 : iX11 T 0) (h12 : iX12 T 187) (hle : T.1 ≤ T'.1 ∧ T.2.1 ≤ T'.2.1) (h1 : fX11_likes T 0 (g.2.2.2.2.2.2 (i + 1)) (g.2.2.2.2.2.2 (i + 2)) (g.2.2.2.2.2.2 (i + 3)) (g.2.2.2.2.2.2 (i + 4)) (g.2.2.2.2.2.2 (i + 5)) S = some (r, S1)) (h2 : fX12_likes T 187 (g.2.2.2.2.2.2 (i + 1)) (g.2.2.2.2.2.2 (i + 2)) (g.2.2.2.2.2.2 (i + 3)) (g.2.2.2.2.2.2 (i + 4)) (g.2.2.2.2.2.2 (i + 5)) S1 = some (r, S2)) (k : zg g 1312 (mL nm) T0 1147 [some (.ref 10001), some (.ref 0), some (.ref 187), some (.int (nI i))] [] T S2 v T' S') (hx : g.2.2.2.2.2.2 (i + 0) &&& 63 = 22) : zg g 1312 (mL nm) T0 33 [some (.ref 10001), some (.ref 0), some (.ref 187), some (.int (nI i))] [.int (g.2.2.2.2.2.2 (i + 0) &&& 63)] T S v T' S' := by
  refine z_tableIn (off := 727) (tgt := 760) dL_law_33 (by rw [hx]; decide) (by rw [hx]; decide) (by rw [hx]; rfl) (by decide) ?_
  refine z_aload_n dL_law_760 rfl ?_
  refine z_aload_n dL_law_761 rfl ?_
  refine z_iload_n dL_law_762 rfl ?_
  refine z_iconst (r := 1) dL_law_763 (by decide) ?_
  refine z_iadd dL_law_764 rfl ?_
  refine z_sld (law_v1 hL h) dL_law_765 ?_
  refine z_ti (law_x1 g.2.2.2.2.2.2 hL h) ?_
  refine z_aload_n dL_law_766 rfl ?_
  refine z_iload_n dL_law_767 rfl ?_
  refine z_iconst (r := 2) dL_law_768 (by decide) ?_
  refine z_iadd dL_law_769 rfl ?_
  refine z_sld (law_v2 hL h) dL_law_770 ?_
  refine z_ti (law_x2 g.2.2.2.2.2.2 hL h) ?_
  refine z_aload_n dL_law_771 rfl ?_
  refine z_iload_n dL_law_772 rfl ?_
  refine z_iconst (r := 3) dL_law_773 (by decide) ?_
  refine z_iadd dL_law_774 rfl ?_
  refine z_sld (law_v3 hL h) dL_law_775 ?_
  refine z_ti (law_x3 g.2.2.2.2.2.2 hL h) ?_
  refine z_aload_n dL_law_776 rfl ?_
  refine z_iload_n dL_law_777 rfl ?_
  refine z_iconst (r := 4) dL_law_778 (by decide) ?_
  refine z_iadd dL_law_779 rfl ?_
  refine z_sld (law_v4 hL h) dL_law_780 ?_
  refine z_ti (law_x4 g.2.2.2.2.2.2 hL h) ?_
  refine z_aload_n dL_law_781 rfl ?_
  refine z_iload_n dL_law_782 rfl ?_
  refine z_iconst (r := 5) dL_law_783 (by decide) ?_
  refine z_iadd dL_law_784 rfl ?_
  refine z_sld (law_v5 hL h) dL_law_785 ?_
  refine z_ti (law_x5 g.2.2.2.2.2.2 hL h) ?_
  refine z_callV (As := [.int (g.2.2.2.2.2.2 (i + 1)), .int (g.2.2.2.2.2.2 (i + 2)), .int (g.2.2.2.2.2.2 (i + 3)), .int (g.2.2.2.2.2.2 (i + 4)), .int (g.2.2.2.2.2.2 (i + 5))]) zcX11 zkL_107 ziX11_likes zqX11_likes h11.1 (tX11_likes T 0 (g.2.2.2.2.2.2 (i + 1)) (g.2.2.2.2.2.2 (i + 2)) (g.2.2.2.2.2.2 (i + 3)) (g.2.2.2.2.2.2 (i + 4)) (g.2.2.2.2.2.2 (i + 5)) S h11 (r, S1) h1) rfl rfl (Nat.le_of_ble_eq_true rfl) (by decide) ⟨Nat.le_refl _, Nat.le_refl _⟩ hle dL_law_786 ?_
  refine z_aload_n dL_law_789 rfl ?_
  refine z_aload_n dL_law_790 rfl ?_
  refine z_iload_n dL_law_791 rfl ?_
  refine z_iconst (r := 1) dL_law_792 (by decide) ?_
  refine z_iadd dL_law_793 rfl ?_
  refine z_sld (law_v1 hL h) dL_law_794 ?_
  refine z_ti (law_x1 g.2.2.2.2.2.2 hL h) ?_
  refine z_aload_n dL_law_795 rfl ?_
  refine z_iload_n dL_law_796 rfl ?_
  refine z_iconst (r := 2) dL_law_797 (by decide) ?_
  refine z_iadd dL_law_798 rfl ?_
  refine z_sld (law_v2 hL h) dL_law_799 ?_
  refine z_ti (law_x2 g.2.2.2.2.2.2 hL h) ?_
  refine z_aload_n dL_law_800 rfl ?_
  refine z_iload_n dL_law_801 rfl ?_
  refine z_iconst (r := 3) dL_law_802 (by decide) ?_
  refine z_iadd dL_law_803 rfl ?_
  refine z_sld (law_v3 hL h) dL_law_804 ?_
  refine z_ti (law_x3 g.2.2.2.2.2.2 hL h) ?_
  refine z_aload_n dL_law_805 rfl ?_
  refine z_iload_n dL_law_806 rfl ?_
  refine z_iconst (r := 4) dL_law_807 (by decide) ?_
  refine z_iadd dL_law_808 rfl ?_
  refine z_sld (law_v4 hL h) dL_law_809 ?_
  refine z_ti (law_x4 g.2.2.2.2.2.2 hL h) ?_
  refine z_aload_n dL_law_810 rfl ?_
  refine z_iload_n dL_law_811 rfl ?_
  refine z_iconst (r := 5) dL_law_812 (by decide) ?_
  refine z_iadd dL_law_813 rfl ?_
  refine z_sld (law_v5 hL h) dL_law_814 ?_
  refine z_ti (law_x5 g.2.2.2.2.2.2 hL h) ?_
  refine z_callV (As := [.int (g.2.2.2.2.2.2 (i + 1)), .int (g.2.2.2.2.2.2 (i + 2)), .int (g.2.2.2.2.2.2 (i + 3)), .int (g.2.2.2.2.2.2 (i + 4)), .int (g.2.2.2.2.2.2 (i + 5))]) zcX12 zkL_111 ziX12_likes zqX12_likes h12.1 (tX12_likes T 187 (g.2.2.2.2.2.2 (i + 1)) (g.2.2.2.2.2.2 (i + 2)) (g.2.2.2.2.2.2 (i + 3)) (g.2.2.2.2.2.2 (i + 4)) (g.2.2.2.2.2.2 (i + 5)) S1 h12 (r, S2) h2) rfl rfl (Nat.le_of_ble_eq_true rfl) (by decide) ⟨Nat.le_refl _, Nat.le_refl _⟩ hle dL_law_815 ?_
  refine z_lcmp dL_law_818 rfl ?_
  refine z_if_eq (tgt := 1147) dL_law_819 (by decide) (fun _ => ?_) (fun q => absurd ((lg_cmp_eq _ _).mpr rfl) q)
  exact k
set_option maxHeartbeats 4000000 in
set_option maxRecDepth 100000 in
theorem law_c23 {r : Int32} {S1 : zS} {S2 : zS} (hL : g.2.2.2.2.2.1 ≤ 3072) (h : i + 6 ≤ g.2.2.2.2.2.1) (h11 : iX11 T 0) (h12 : iX12 T 187) (hle : T.1 ≤ T'.1 ∧ T.2.1 ≤ T'.2.1) (h1 : fX11_ruled T 0 (g.2.2.2.2.2.2 (i + 1)) (g.2.2.2.2.2.2 (i + 2)) S = some (r, S1)) (h2 : fX12_ruled T 187 (g.2.2.2.2.2.2 (i + 1)) (g.2.2.2.2.2.2 (i + 2)) S1 = some (r, S2)) (k : zg g 1312 (mL nm) T0 1147 [some (.ref 10001), some (.ref 0), some (.ref 187), some (.int (nI i))] [] T S2 v T' S') (hx : g.2.2.2.2.2.2 (i + 0) &&& 63 = 23) : zg g 1312 (mL nm) T0 33 [some (.ref 10001), some (.ref 0), some (.ref 187), some (.int (nI i))] [.int (g.2.2.2.2.2.2 (i + 0) &&& 63)] T S v T' S' := by
  refine z_tableIn (off := 791) (tgt := 824) dL_law_33 (by rw [hx]; decide) (by rw [hx]; decide) (by rw [hx]; rfl) (by decide) ?_
  refine z_aload_n dL_law_824 rfl ?_
  refine z_aload_n dL_law_825 rfl ?_
  refine z_iload_n dL_law_826 rfl ?_
  refine z_iconst (r := 1) dL_law_827 (by decide) ?_
  refine z_iadd dL_law_828 rfl ?_
  refine z_sld (law_v1 hL h) dL_law_829 ?_
  refine z_ti (law_x1 g.2.2.2.2.2.2 hL h) ?_
  refine z_aload_n dL_law_830 rfl ?_
  refine z_iload_n dL_law_831 rfl ?_
  refine z_iconst (r := 2) dL_law_832 (by decide) ?_
  refine z_iadd dL_law_833 rfl ?_
  refine z_sld (law_v2 hL h) dL_law_834 ?_
  refine z_ti (law_x2 g.2.2.2.2.2.2 hL h) ?_
  refine z_callV (As := [.int (g.2.2.2.2.2.2 (i + 1)), .int (g.2.2.2.2.2.2 (i + 2))]) zcX11 zkL_112 ziX11_ruled zqX11_ruled h11.1 (tX11_ruled T 0 (g.2.2.2.2.2.2 (i + 1)) (g.2.2.2.2.2.2 (i + 2)) S h11 (r, S1) h1) rfl rfl (Nat.le_of_ble_eq_true rfl) (by decide) ⟨Nat.le_refl _, Nat.le_refl _⟩ hle dL_law_835 ?_
  refine z_aload_n dL_law_838 rfl ?_
  refine z_aload_n dL_law_839 rfl ?_
  refine z_iload_n dL_law_840 rfl ?_
  refine z_iconst (r := 1) dL_law_841 (by decide) ?_
  refine z_iadd dL_law_842 rfl ?_
  refine z_sld (law_v1 hL h) dL_law_843 ?_
  refine z_ti (law_x1 g.2.2.2.2.2.2 hL h) ?_
  refine z_aload_n dL_law_844 rfl ?_
  refine z_iload_n dL_law_845 rfl ?_
  refine z_iconst (r := 2) dL_law_846 (by decide) ?_
  refine z_iadd dL_law_847 rfl ?_
  refine z_sld (law_v2 hL h) dL_law_848 ?_
  refine z_ti (law_x2 g.2.2.2.2.2.2 hL h) ?_
  refine z_callV (As := [.int (g.2.2.2.2.2.2 (i + 1)), .int (g.2.2.2.2.2.2 (i + 2))]) zcX12 zkL_115 ziX12_ruled zqX12_ruled h12.1 (tX12_ruled T 187 (g.2.2.2.2.2.2 (i + 1)) (g.2.2.2.2.2.2 (i + 2)) S1 h12 (r, S2) h2) rfl rfl (Nat.le_of_ble_eq_true rfl) (by decide) ⟨Nat.le_refl _, Nat.le_refl _⟩ hle dL_law_849 ?_
  refine z_icmp_eq (tgt := 1147) dL_law_852 (by decide) (fun _ => ?_) (fun q => absurd rfl q)
  exact k
set_option maxHeartbeats 4000000 in
set_option maxRecDepth 100000 in
theorem law_c24 {r : Int32} {S1 : zS} {S2 : zS} (hL : g.2.2.2.2.2.1 ≤ 3072) (h : i + 6 ≤ g.2.2.2.2.2.1) (h11 : iX11 T 0) (h12 : iX12 T 187) (hle : T.1 ≤ T'.1 ∧ T.2.1 ≤ T'.2.1) (h1 : fX11_finest T 0 S = some (r, S1)) (h2 : fX12_finest T 187 S1 = some (r, S2)) (k : zg g 1312 (mL nm) T0 1147 [some (.ref 10001), some (.ref 0), some (.ref 187), some (.int (nI i))] [] T S2 v T' S') (hx : g.2.2.2.2.2.2 (i + 0) &&& 63 = 24) : zg g 1312 (mL nm) T0 33 [some (.ref 10001), some (.ref 0), some (.ref 187), some (.int (nI i))] [.int (g.2.2.2.2.2.2 (i + 0) &&& 63)] T S v T' S' := by
  refine z_tableIn (off := 824) (tgt := 857) dL_law_33 (by rw [hx]; decide) (by rw [hx]; decide) (by rw [hx]; rfl) (by decide) ?_
  refine z_aload_n dL_law_857 rfl ?_
  refine z_callV (As := []) zcX11 zkL_116 ziX11_finest zqX11_finest h11.1 (tX11_finest T 0  S h11 (r, S1) h1) rfl rfl (Nat.le_of_ble_eq_true rfl) (by decide) ⟨Nat.le_refl _, Nat.le_refl _⟩ hle dL_law_858 ?_
  refine z_aload_n dL_law_861 rfl ?_
  refine z_callV (As := []) zcX12 zkL_119 ziX12_finest zqX12_finest h12.1 (tX12_finest T 187  S1 h12 (r, S2) h2) rfl rfl (Nat.le_of_ble_eq_true rfl) (by decide) ⟨Nat.le_refl _, Nat.le_refl _⟩ hle dL_law_862 ?_
  refine z_icmp_eq (tgt := 1147) dL_law_865 (by decide) (fun _ => ?_) (fun q => absurd rfl q)
  exact k
set_option maxHeartbeats 4000000 in
set_option maxRecDepth 100000 in
theorem law_c25 {r : Int32} {S1 : zS} {S2 : zS} (hL : g.2.2.2.2.2.1 ≤ 3072) (h : i + 6 ≤ g.2.2.2.2.2.1) (h11 : iX11 T 0) (h12 : iX12 T 187) (hle : T.1 ≤ T'.1 ∧ T.2.1 ≤ T'.2.1) (h1 : fX11_parts T 0 (g.2.2.2.2.2.2 (i + 1)) (g.2.2.2.2.2.2 (i + 2)) S = some (r, S1)) (h2 : fX12_parts T 187 (g.2.2.2.2.2.2 (i + 1)) (g.2.2.2.2.2.2 (i + 2)) S1 = some (r, S2)) (k : zg g 1312 (mL nm) T0 1147 [some (.ref 10001), some (.ref 0), some (.ref 187), some (.int (nI i))] [] T S2 v T' S') (hx : g.2.2.2.2.2.2 (i + 0) &&& 63 = 25) : zg g 1312 (mL nm) T0 33 [some (.ref 10001), some (.ref 0), some (.ref 187), some (.int (nI i))] [.int (g.2.2.2.2.2.2 (i + 0) &&& 63)] T S v T' S' := by
  refine z_tableIn (off := 837) (tgt := 870) dL_law_33 (by rw [hx]; decide) (by rw [hx]; decide) (by rw [hx]; rfl) (by decide) ?_
  refine z_aload_n dL_law_870 rfl ?_
  refine z_aload_n dL_law_871 rfl ?_
  refine z_iload_n dL_law_872 rfl ?_
  refine z_iconst (r := 1) dL_law_873 (by decide) ?_
  refine z_iadd dL_law_874 rfl ?_
  refine z_sld (law_v1 hL h) dL_law_875 ?_
  refine z_ti (law_x1 g.2.2.2.2.2.2 hL h) ?_
  refine z_aload_n dL_law_876 rfl ?_
  refine z_iload_n dL_law_877 rfl ?_
  refine z_iconst (r := 2) dL_law_878 (by decide) ?_
  refine z_iadd dL_law_879 rfl ?_
  refine z_sld (law_v2 hL h) dL_law_880 ?_
  refine z_ti (law_x2 g.2.2.2.2.2.2 hL h) ?_
  refine z_callV (As := [.int (g.2.2.2.2.2.2 (i + 1)), .int (g.2.2.2.2.2.2 (i + 2))]) zcX11 zkL_120 ziX11_parts zqX11_parts h11.1 (tX11_parts T 0 (g.2.2.2.2.2.2 (i + 1)) (g.2.2.2.2.2.2 (i + 2)) S h11 (r, S1) h1) rfl rfl (Nat.le_of_ble_eq_true rfl) (by decide) ⟨Nat.le_refl _, Nat.le_refl _⟩ hle dL_law_881 ?_
  refine z_aload_n dL_law_884 rfl ?_
  refine z_aload_n dL_law_885 rfl ?_
  refine z_iload_n dL_law_886 rfl ?_
  refine z_iconst (r := 1) dL_law_887 (by decide) ?_
  refine z_iadd dL_law_888 rfl ?_
  refine z_sld (law_v1 hL h) dL_law_889 ?_
  refine z_ti (law_x1 g.2.2.2.2.2.2 hL h) ?_
  refine z_aload_n dL_law_890 rfl ?_
  refine z_iload_n dL_law_891 rfl ?_
  refine z_iconst (r := 2) dL_law_892 (by decide) ?_
  refine z_iadd dL_law_893 rfl ?_
  refine z_sld (law_v2 hL h) dL_law_894 ?_
  refine z_ti (law_x2 g.2.2.2.2.2.2 hL h) ?_
  refine z_callV (As := [.int (g.2.2.2.2.2.2 (i + 1)), .int (g.2.2.2.2.2.2 (i + 2))]) zcX12 zkL_123 ziX12_parts zqX12_parts h12.1 (tX12_parts T 187 (g.2.2.2.2.2.2 (i + 1)) (g.2.2.2.2.2.2 (i + 2)) S1 h12 (r, S2) h2) rfl rfl (Nat.le_of_ble_eq_true rfl) (by decide) ⟨Nat.le_refl _, Nat.le_refl _⟩ hle dL_law_895 ?_
  refine z_icmp_eq (tgt := 1147) dL_law_898 (by decide) (fun _ => ?_) (fun q => absurd rfl q)
  exact k
set_option maxHeartbeats 4000000 in
set_option maxRecDepth 100000 in
theorem law_c26 {r : Int32} {S1 : zS} {S2 : zS} (hL : g.2.2.2.2.2.1 ≤ 3072) (h : i + 6 ≤ g.2.2.2.2.2.1) (h11 : iX11 T 0) (h12 : iX12 T 187) (hle : T.1 ≤ T'.1 ∧ T.2.1 ≤ T'.2.1) (h1 : fX11_holds T 0 (g.2.2.2.2.2.2 (i + 1)) (g.2.2.2.2.2.2 (i + 2)) S = some (r, S1)) (h2 : fX12_holds T 187 (g.2.2.2.2.2.2 (i + 1)) (g.2.2.2.2.2.2 (i + 2)) S1 = some (r, S2)) (k : zg g 1312 (mL nm) T0 1147 [some (.ref 10001), some (.ref 0), some (.ref 187), some (.int (nI i))] [] T S2 v T' S') (hx : g.2.2.2.2.2.2 (i + 0) &&& 63 = 26) : zg g 1312 (mL nm) T0 33 [some (.ref 10001), some (.ref 0), some (.ref 187), some (.int (nI i))] [.int (g.2.2.2.2.2.2 (i + 0) &&& 63)] T S v T' S' := by
  refine z_tableIn (off := 870) (tgt := 903) dL_law_33 (by rw [hx]; decide) (by rw [hx]; decide) (by rw [hx]; rfl) (by decide) ?_
  refine z_aload_n dL_law_903 rfl ?_
  refine z_aload_n dL_law_904 rfl ?_
  refine z_iload_n dL_law_905 rfl ?_
  refine z_iconst (r := 1) dL_law_906 (by decide) ?_
  refine z_iadd dL_law_907 rfl ?_
  refine z_sld (law_v1 hL h) dL_law_908 ?_
  refine z_ti (law_x1 g.2.2.2.2.2.2 hL h) ?_
  refine z_aload_n dL_law_909 rfl ?_
  refine z_iload_n dL_law_910 rfl ?_
  refine z_iconst (r := 2) dL_law_911 (by decide) ?_
  refine z_iadd dL_law_912 rfl ?_
  refine z_sld (law_v2 hL h) dL_law_913 ?_
  refine z_ti (law_x2 g.2.2.2.2.2.2 hL h) ?_
  refine z_callV (As := [.int (g.2.2.2.2.2.2 (i + 1)), .int (g.2.2.2.2.2.2 (i + 2))]) zcX11 zkL_124 ziX11_holds zqX11_holds h11.1 (tX11_holds T 0 (g.2.2.2.2.2.2 (i + 1)) (g.2.2.2.2.2.2 (i + 2)) S h11 (r, S1) h1) rfl rfl (Nat.le_of_ble_eq_true rfl) (by decide) ⟨Nat.le_refl _, Nat.le_refl _⟩ hle dL_law_914 ?_
  refine z_aload_n dL_law_917 rfl ?_
  refine z_aload_n dL_law_918 rfl ?_
  refine z_iload_n dL_law_919 rfl ?_
  refine z_iconst (r := 1) dL_law_920 (by decide) ?_
  refine z_iadd dL_law_921 rfl ?_
  refine z_sld (law_v1 hL h) dL_law_922 ?_
  refine z_ti (law_x1 g.2.2.2.2.2.2 hL h) ?_
  refine z_aload_n dL_law_923 rfl ?_
  refine z_iload_n dL_law_924 rfl ?_
  refine z_iconst (r := 2) dL_law_925 (by decide) ?_
  refine z_iadd dL_law_926 rfl ?_
  refine z_sld (law_v2 hL h) dL_law_927 ?_
  refine z_ti (law_x2 g.2.2.2.2.2.2 hL h) ?_
  refine z_callV (As := [.int (g.2.2.2.2.2.2 (i + 1)), .int (g.2.2.2.2.2.2 (i + 2))]) zcX12 zkL_127 ziX12_holds zqX12_holds h12.1 (tX12_holds T 187 (g.2.2.2.2.2.2 (i + 1)) (g.2.2.2.2.2.2 (i + 2)) S1 h12 (r, S2) h2) rfl rfl (Nat.le_of_ble_eq_true rfl) (by decide) ⟨Nat.le_refl _, Nat.le_refl _⟩ hle dL_law_928 ?_
  refine z_icmp_eq (tgt := 1147) dL_law_931 (by decide) (fun _ => ?_) (fun q => absurd rfl q)
  exact k
set_option maxHeartbeats 4000000 in
set_option maxRecDepth 100000 in
theorem law_c27 {r : Int32} {S1 : zS} {S2 : zS} (hL : g.2.2.2.2.2.1 ≤ 3072) (h : i + 6 ≤ g.2.2.2.2.2.1) (h11 : iX11 T 0) (h12 : iX12 T 187) (hle : T.1 ≤ T'.1 ∧ T.2.1 ≤ T'.2.1) (h1 : fX11_goes T 0 (g.2.2.2.2.2.2 (i + 1)) (g.2.2.2.2.2.2 (i + 2)) (g.2.2.2.2.2.2 (i + 3)) S = some (r, S1)) (h2 : fX12_goes T 187 (g.2.2.2.2.2.2 (i + 1)) (g.2.2.2.2.2.2 (i + 2)) (g.2.2.2.2.2.2 (i + 3)) S1 = some (r, S2)) (k : zg g 1312 (mL nm) T0 1147 [some (.ref 10001), some (.ref 0), some (.ref 187), some (.int (nI i))] [] T S2 v T' S') (hx : g.2.2.2.2.2.2 (i + 0) &&& 63 = 27) : zg g 1312 (mL nm) T0 33 [some (.ref 10001), some (.ref 0), some (.ref 187), some (.int (nI i))] [.int (g.2.2.2.2.2.2 (i + 0) &&& 63)] T S v T' S' := by
  refine z_tableIn (off := 903) (tgt := 936) dL_law_33 (by rw [hx]; decide) (by rw [hx]; decide) (by rw [hx]; rfl) (by decide) ?_
  refine z_aload_n dL_law_936 rfl ?_
  refine z_aload_n dL_law_937 rfl ?_
  refine z_iload_n dL_law_938 rfl ?_
  refine z_iconst (r := 1) dL_law_939 (by decide) ?_
  refine z_iadd dL_law_940 rfl ?_
  refine z_sld (law_v1 hL h) dL_law_941 ?_
  refine z_ti (law_x1 g.2.2.2.2.2.2 hL h) ?_
  refine z_aload_n dL_law_942 rfl ?_
  refine z_iload_n dL_law_943 rfl ?_
  refine z_iconst (r := 2) dL_law_944 (by decide) ?_
  refine z_iadd dL_law_945 rfl ?_
  refine z_sld (law_v2 hL h) dL_law_946 ?_
  refine z_ti (law_x2 g.2.2.2.2.2.2 hL h) ?_
  refine z_aload_n dL_law_947 rfl ?_
  refine z_iload_n dL_law_948 rfl ?_
  refine z_iconst (r := 3) dL_law_949 (by decide) ?_
  refine z_iadd dL_law_950 rfl ?_
  refine z_sld (law_v3 hL h) dL_law_951 ?_
  refine z_ti (law_x3 g.2.2.2.2.2.2 hL h) ?_
  refine z_callV (As := [.int (g.2.2.2.2.2.2 (i + 1)), .int (g.2.2.2.2.2.2 (i + 2)), .int (g.2.2.2.2.2.2 (i + 3))]) zcX11 zkL_128 ziX11_goes zqX11_goes h11.1 (tX11_goes T 0 (g.2.2.2.2.2.2 (i + 1)) (g.2.2.2.2.2.2 (i + 2)) (g.2.2.2.2.2.2 (i + 3)) S h11 (r, S1) h1) rfl rfl (Nat.le_of_ble_eq_true rfl) (by decide) ⟨Nat.le_refl _, Nat.le_refl _⟩ hle dL_law_952 ?_
  refine z_aload_n dL_law_955 rfl ?_
  refine z_aload_n dL_law_956 rfl ?_
  refine z_iload_n dL_law_957 rfl ?_
  refine z_iconst (r := 1) dL_law_958 (by decide) ?_
  refine z_iadd dL_law_959 rfl ?_
  refine z_sld (law_v1 hL h) dL_law_960 ?_
  refine z_ti (law_x1 g.2.2.2.2.2.2 hL h) ?_
  refine z_aload_n dL_law_961 rfl ?_
  refine z_iload_n dL_law_962 rfl ?_
  refine z_iconst (r := 2) dL_law_963 (by decide) ?_
  refine z_iadd dL_law_964 rfl ?_
  refine z_sld (law_v2 hL h) dL_law_965 ?_
  refine z_ti (law_x2 g.2.2.2.2.2.2 hL h) ?_
  refine z_aload_n dL_law_966 rfl ?_
  refine z_iload_n dL_law_967 rfl ?_
  refine z_iconst (r := 3) dL_law_968 (by decide) ?_
  refine z_iadd dL_law_969 rfl ?_
  refine z_sld (law_v3 hL h) dL_law_970 ?_
  refine z_ti (law_x3 g.2.2.2.2.2.2 hL h) ?_
  refine z_callV (As := [.int (g.2.2.2.2.2.2 (i + 1)), .int (g.2.2.2.2.2.2 (i + 2)), .int (g.2.2.2.2.2.2 (i + 3))]) zcX12 zkL_131 ziX12_goes zqX12_goes h12.1 (tX12_goes T 187 (g.2.2.2.2.2.2 (i + 1)) (g.2.2.2.2.2.2 (i + 2)) (g.2.2.2.2.2.2 (i + 3)) S1 h12 (r, S2) h2) rfl rfl (Nat.le_of_ble_eq_true rfl) (by decide) ⟨Nat.le_refl _, Nat.le_refl _⟩ hle dL_law_971 ?_
  refine z_icmp_eq (tgt := 1147) dL_law_974 (by decide) (fun _ => ?_) (fun q => absurd rfl q)
  exact k
set_option maxHeartbeats 4000000 in
set_option maxRecDepth 100000 in
theorem law_c28 {r : Int32} {S1 : zS} {S2 : zS} (hL : g.2.2.2.2.2.1 ≤ 3072) (h : i + 6 ≤ g.2.2.2.2.2.1) (h11 : iX11 T 0) (h12 : iX12 T 187) (hle : T.1 ≤ T'.1 ∧ T.2.1 ≤ T'.2.1) (h1 : fX11_surely T 0 S = some (r, S1)) (h2 : fX12_surely T 187 S1 = some (r, S2)) (k : zg g 1312 (mL nm) T0 1147 [some (.ref 10001), some (.ref 0), some (.ref 187), some (.int (nI i))] [] T S2 v T' S') (hx : g.2.2.2.2.2.2 (i + 0) &&& 63 = 28) : zg g 1312 (mL nm) T0 33 [some (.ref 10001), some (.ref 0), some (.ref 187), some (.int (nI i))] [.int (g.2.2.2.2.2.2 (i + 0) &&& 63)] T S v T' S' := by
  refine z_tableIn (off := 946) (tgt := 979) dL_law_33 (by rw [hx]; decide) (by rw [hx]; decide) (by rw [hx]; rfl) (by decide) ?_
  refine z_aload_n dL_law_979 rfl ?_
  refine z_callV (As := []) zcX11 zkL_132 ziX11_surely zqX11_surely h11.1 (tX11_surely T 0  S h11 (r, S1) h1) rfl rfl (Nat.le_of_ble_eq_true rfl) (by decide) ⟨Nat.le_refl _, Nat.le_refl _⟩ hle dL_law_980 ?_
  refine z_aload_n dL_law_983 rfl ?_
  refine z_callV (As := []) zcX12 zkL_135 ziX12_surely zqX12_surely h12.1 (tX12_surely T 187  S1 h12 (r, S2) h2) rfl rfl (Nat.le_of_ble_eq_true rfl) (by decide) ⟨Nat.le_refl _, Nat.le_refl _⟩ hle dL_law_984 ?_
  refine z_icmp_eq (tgt := 1147) dL_law_987 (by decide) (fun _ => ?_) (fun q => absurd rfl q)
  exact k
set_option maxHeartbeats 4000000 in
set_option maxRecDepth 100000 in
theorem law_c29 {r : Int32} {S1 : zS} {S2 : zS} (hL : g.2.2.2.2.2.1 ≤ 3072) (h : i + 6 ≤ g.2.2.2.2.2.1) (h11 : iX11 T 0) (h12 : iX12 T 187) (hle : T.1 ≤ T'.1 ∧ T.2.1 ≤ T'.2.1) (h1 : fX11_most T 0 (g.2.2.2.2.2.2 (i + 1)) (g.2.2.2.2.2.2 (i + 2)) S = some (r, S1)) (h2 : fX12_most T 187 (g.2.2.2.2.2.2 (i + 1)) (g.2.2.2.2.2.2 (i + 2)) S1 = some (r, S2)) (k : zg g 1312 (mL nm) T0 1147 [some (.ref 10001), some (.ref 0), some (.ref 187), some (.int (nI i))] [] T S2 v T' S') (hx : g.2.2.2.2.2.2 (i + 0) &&& 63 = 29) : zg g 1312 (mL nm) T0 33 [some (.ref 10001), some (.ref 0), some (.ref 187), some (.int (nI i))] [.int (g.2.2.2.2.2.2 (i + 0) &&& 63)] T S v T' S' := by
  refine z_tableIn (off := 959) (tgt := 992) dL_law_33 (by rw [hx]; decide) (by rw [hx]; decide) (by rw [hx]; rfl) (by decide) ?_
  refine z_aload_n dL_law_992 rfl ?_
  refine z_aload_n dL_law_993 rfl ?_
  refine z_iload_n dL_law_994 rfl ?_
  refine z_iconst (r := 1) dL_law_995 (by decide) ?_
  refine z_iadd dL_law_996 rfl ?_
  refine z_sld (law_v1 hL h) dL_law_997 ?_
  refine z_ti (law_x1 g.2.2.2.2.2.2 hL h) ?_
  refine z_aload_n dL_law_998 rfl ?_
  refine z_iload_n dL_law_999 rfl ?_
  refine z_iconst (r := 2) dL_law_1000 (by decide) ?_
  refine z_iadd dL_law_1001 rfl ?_
  refine z_sld (law_v2 hL h) dL_law_1002 ?_
  refine z_ti (law_x2 g.2.2.2.2.2.2 hL h) ?_
  refine z_callV (As := [.int (g.2.2.2.2.2.2 (i + 1)), .int (g.2.2.2.2.2.2 (i + 2))]) zcX11 zkL_136 ziX11_most zqX11_most h11.1 (tX11_most T 0 (g.2.2.2.2.2.2 (i + 1)) (g.2.2.2.2.2.2 (i + 2)) S h11 (r, S1) h1) rfl rfl (Nat.le_of_ble_eq_true rfl) (by decide) ⟨Nat.le_refl _, Nat.le_refl _⟩ hle dL_law_1003 ?_
  refine z_aload_n dL_law_1006 rfl ?_
  refine z_aload_n dL_law_1007 rfl ?_
  refine z_iload_n dL_law_1008 rfl ?_
  refine z_iconst (r := 1) dL_law_1009 (by decide) ?_
  refine z_iadd dL_law_1010 rfl ?_
  refine z_sld (law_v1 hL h) dL_law_1011 ?_
  refine z_ti (law_x1 g.2.2.2.2.2.2 hL h) ?_
  refine z_aload_n dL_law_1012 rfl ?_
  refine z_iload_n dL_law_1013 rfl ?_
  refine z_iconst (r := 2) dL_law_1014 (by decide) ?_
  refine z_iadd dL_law_1015 rfl ?_
  refine z_sld (law_v2 hL h) dL_law_1016 ?_
  refine z_ti (law_x2 g.2.2.2.2.2.2 hL h) ?_
  refine z_callV (As := [.int (g.2.2.2.2.2.2 (i + 1)), .int (g.2.2.2.2.2.2 (i + 2))]) zcX12 zkL_139 ziX12_most zqX12_most h12.1 (tX12_most T 187 (g.2.2.2.2.2.2 (i + 1)) (g.2.2.2.2.2.2 (i + 2)) S1 h12 (r, S2) h2) rfl rfl (Nat.le_of_ble_eq_true rfl) (by decide) ⟨Nat.le_refl _, Nat.le_refl _⟩ hle dL_law_1017 ?_
  refine z_icmp_eq (tgt := 1147) dL_law_1020 (by decide) (fun _ => ?_) (fun q => absurd rfl q)
  exact k
set_option maxHeartbeats 4000000 in
set_option maxRecDepth 100000 in
theorem law_c30 {r : Int32} (hL : g.2.2.2.2.2.1 ≤ 3072) (h : i + 6 ≤ g.2.2.2.2.2.1) (h11 : iX11 T 0) (h12 : iX12 T 187) (hle : T.1 ≤ T'.1 ∧ T.2.1 ≤ T'.2.1) (h1 : fX11_needed T 0 (g.2.2.2.2.2.2 (i + 1)) (g.2.2.2.2.2.2 (i + 2)) S = some r) (h2 : fX12_needed T 187 (g.2.2.2.2.2.2 (i + 1)) (g.2.2.2.2.2.2 (i + 2)) S = some r) (k : zg g 1312 (mL nm) T0 1147 [some (.ref 10001), some (.ref 0), some (.ref 187), some (.int (nI i))] [] T S v T' S') (hx : g.2.2.2.2.2.2 (i + 0) &&& 63 = 30) : zg g 1312 (mL nm) T0 33 [some (.ref 10001), some (.ref 0), some (.ref 187), some (.int (nI i))] [.int (g.2.2.2.2.2.2 (i + 0) &&& 63)] T S v T' S' := by
  refine z_tableIn (off := 992) (tgt := 1025) dL_law_33 (by rw [hx]; decide) (by rw [hx]; decide) (by rw [hx]; rfl) (by decide) ?_
  refine z_aload_n dL_law_1025 rfl ?_
  refine z_aload_n dL_law_1026 rfl ?_
  refine z_iload_n dL_law_1027 rfl ?_
  refine z_iconst (r := 1) dL_law_1028 (by decide) ?_
  refine z_iadd dL_law_1029 rfl ?_
  refine z_sld (law_v1 hL h) dL_law_1030 ?_
  refine z_ti (law_x1 g.2.2.2.2.2.2 hL h) ?_
  refine z_aload_n dL_law_1031 rfl ?_
  refine z_iload_n dL_law_1032 rfl ?_
  refine z_iconst (r := 2) dL_law_1033 (by decide) ?_
  refine z_iadd dL_law_1034 rfl ?_
  refine z_sld (law_v2 hL h) dL_law_1035 ?_
  refine z_ti (law_x2 g.2.2.2.2.2.2 hL h) ?_
  refine z_callV (As := [.int (g.2.2.2.2.2.2 (i + 1)), .int (g.2.2.2.2.2.2 (i + 2))]) zcX11 zkL_140 ziX11_needed zqX11_needed h11.1 (tX11_needed T 0 (g.2.2.2.2.2.2 (i + 1)) (g.2.2.2.2.2.2 (i + 2)) S h11 r h1) rfl rfl (Nat.le_of_ble_eq_true rfl) (by decide) ⟨Nat.le_refl _, Nat.le_refl _⟩ hle dL_law_1036 ?_
  refine z_aload_n dL_law_1039 rfl ?_
  refine z_aload_n dL_law_1040 rfl ?_
  refine z_iload_n dL_law_1041 rfl ?_
  refine z_iconst (r := 1) dL_law_1042 (by decide) ?_
  refine z_iadd dL_law_1043 rfl ?_
  refine z_sld (law_v1 hL h) dL_law_1044 ?_
  refine z_ti (law_x1 g.2.2.2.2.2.2 hL h) ?_
  refine z_aload_n dL_law_1045 rfl ?_
  refine z_iload_n dL_law_1046 rfl ?_
  refine z_iconst (r := 2) dL_law_1047 (by decide) ?_
  refine z_iadd dL_law_1048 rfl ?_
  refine z_sld (law_v2 hL h) dL_law_1049 ?_
  refine z_ti (law_x2 g.2.2.2.2.2.2 hL h) ?_
  refine z_callV (As := [.int (g.2.2.2.2.2.2 (i + 1)), .int (g.2.2.2.2.2.2 (i + 2))]) zcX12 zkL_143 ziX12_needed zqX12_needed h12.1 (tX12_needed T 187 (g.2.2.2.2.2.2 (i + 1)) (g.2.2.2.2.2.2 (i + 2)) S h12 r h2) rfl rfl (Nat.le_of_ble_eq_true rfl) (by decide) ⟨Nat.le_refl _, Nat.le_refl _⟩ hle dL_law_1050 ?_
  refine z_icmp_eq (tgt := 1147) dL_law_1053 (by decide) (fun _ => ?_) (fun q => absurd rfl q)
  exact k
set_option maxHeartbeats 4000000 in
set_option maxRecDepth 100000 in
theorem law_c31 {r : Int32} {S1 : zS} {S2 : zS} (hL : g.2.2.2.2.2.1 ≤ 3072) (h : i + 6 ≤ g.2.2.2.2.2.1) (h11 : iX11 T 0) (h12 : iX12 T 187) (hle : T.1 ≤ T'.1 ∧ T.2.1 ≤ T'.2.1) (h1 : fX11_pays T 0 (g.2.2.2.2.2.2 (i + 1)) (g.2.2.2.2.2.2 (i + 2)) (g.2.2.2.2.2.2 (i + 3)) S = some (r, S1)) (h2 : fX12_pays T 187 (g.2.2.2.2.2.2 (i + 1)) (g.2.2.2.2.2.2 (i + 2)) (g.2.2.2.2.2.2 (i + 3)) S1 = some (r, S2)) (k : zg g 1312 (mL nm) T0 1147 [some (.ref 10001), some (.ref 0), some (.ref 187), some (.int (nI i))] [] T S2 v T' S') (hx : g.2.2.2.2.2.2 (i + 0) &&& 63 = 31) : zg g 1312 (mL nm) T0 33 [some (.ref 10001), some (.ref 0), some (.ref 187), some (.int (nI i))] [.int (g.2.2.2.2.2.2 (i + 0) &&& 63)] T S v T' S' := by
  refine z_tableIn (off := 1025) (tgt := 1058) dL_law_33 (by rw [hx]; decide) (by rw [hx]; decide) (by rw [hx]; rfl) (by decide) ?_
  refine z_aload_n dL_law_1058 rfl ?_
  refine z_aload_n dL_law_1059 rfl ?_
  refine z_iload_n dL_law_1060 rfl ?_
  refine z_iconst (r := 1) dL_law_1061 (by decide) ?_
  refine z_iadd dL_law_1062 rfl ?_
  refine z_sld (law_v1 hL h) dL_law_1063 ?_
  refine z_ti (law_x1 g.2.2.2.2.2.2 hL h) ?_
  refine z_aload_n dL_law_1064 rfl ?_
  refine z_iload_n dL_law_1065 rfl ?_
  refine z_iconst (r := 2) dL_law_1066 (by decide) ?_
  refine z_iadd dL_law_1067 rfl ?_
  refine z_sld (law_v2 hL h) dL_law_1068 ?_
  refine z_ti (law_x2 g.2.2.2.2.2.2 hL h) ?_
  refine z_aload_n dL_law_1069 rfl ?_
  refine z_iload_n dL_law_1070 rfl ?_
  refine z_iconst (r := 3) dL_law_1071 (by decide) ?_
  refine z_iadd dL_law_1072 rfl ?_
  refine z_sld (law_v3 hL h) dL_law_1073 ?_
  refine z_ti (law_x3 g.2.2.2.2.2.2 hL h) ?_
  refine z_callV (As := [.int (g.2.2.2.2.2.2 (i + 1)), .int (g.2.2.2.2.2.2 (i + 2)), .int (g.2.2.2.2.2.2 (i + 3))]) zcX11 zkL_144 ziX11_pays zqX11_pays h11.1 (tX11_pays T 0 (g.2.2.2.2.2.2 (i + 1)) (g.2.2.2.2.2.2 (i + 2)) (g.2.2.2.2.2.2 (i + 3)) S h11 (r, S1) h1) rfl rfl (Nat.le_of_ble_eq_true rfl) (by decide) ⟨Nat.le_refl _, Nat.le_refl _⟩ hle dL_law_1074 ?_
  refine z_aload_n dL_law_1077 rfl ?_
  refine z_aload_n dL_law_1078 rfl ?_
  refine z_iload_n dL_law_1079 rfl ?_
  refine z_iconst (r := 1) dL_law_1080 (by decide) ?_
  refine z_iadd dL_law_1081 rfl ?_
  refine z_sld (law_v1 hL h) dL_law_1082 ?_
  refine z_ti (law_x1 g.2.2.2.2.2.2 hL h) ?_
  refine z_aload_n dL_law_1083 rfl ?_
  refine z_iload_n dL_law_1084 rfl ?_
  refine z_iconst (r := 2) dL_law_1085 (by decide) ?_
  refine z_iadd dL_law_1086 rfl ?_
  refine z_sld (law_v2 hL h) dL_law_1087 ?_
  refine z_ti (law_x2 g.2.2.2.2.2.2 hL h) ?_
  refine z_aload_n dL_law_1088 rfl ?_
  refine z_iload_n dL_law_1089 rfl ?_
  refine z_iconst (r := 3) dL_law_1090 (by decide) ?_
  refine z_iadd dL_law_1091 rfl ?_
  refine z_sld (law_v3 hL h) dL_law_1092 ?_
  refine z_ti (law_x3 g.2.2.2.2.2.2 hL h) ?_
  refine z_callV (As := [.int (g.2.2.2.2.2.2 (i + 1)), .int (g.2.2.2.2.2.2 (i + 2)), .int (g.2.2.2.2.2.2 (i + 3))]) zcX12 zkL_147 ziX12_pays zqX12_pays h12.1 (tX12_pays T 187 (g.2.2.2.2.2.2 (i + 1)) (g.2.2.2.2.2.2 (i + 2)) (g.2.2.2.2.2.2 (i + 3)) S1 h12 (r, S2) h2) rfl rfl (Nat.le_of_ble_eq_true rfl) (by decide) ⟨Nat.le_refl _, Nat.le_refl _⟩ hle dL_law_1093 ?_
  refine z_icmp_eq (tgt := 1147) dL_law_1096 (by decide) (fun _ => ?_) (fun q => absurd rfl q)
  exact k
set_option maxHeartbeats 4000000 in
set_option maxRecDepth 100000 in
theorem law_c32 {r : Int32} {S1 : zS} {S2 : zS} (hL : g.2.2.2.2.2.1 ≤ 3072) (h : i + 6 ≤ g.2.2.2.2.2.1) (h11 : iX11 T 0) (h12 : iX12 T 187) (hle : T.1 ≤ T'.1 ∧ T.2.1 ≤ T'.2.1) (h1 : fX11_image T 0 (g.2.2.2.2.2.2 (i + 1)) S = some (r, S1)) (h2 : fX12_image T 187 (g.2.2.2.2.2.2 (i + 1)) S1 = some (r, S2)) (k : zg g 1312 (mL nm) T0 1147 [some (.ref 10001), some (.ref 0), some (.ref 187), some (.int (nI i))] [] T S2 v T' S') (hx : g.2.2.2.2.2.2 (i + 0) &&& 63 = 32) : zg g 1312 (mL nm) T0 33 [some (.ref 10001), some (.ref 0), some (.ref 187), some (.int (nI i))] [.int (g.2.2.2.2.2.2 (i + 0) &&& 63)] T S v T' S' := by
  refine z_tableIn (off := 1068) (tgt := 1101) dL_law_33 (by rw [hx]; decide) (by rw [hx]; decide) (by rw [hx]; rfl) (by decide) ?_
  refine z_aload_n dL_law_1101 rfl ?_
  refine z_aload_n dL_law_1102 rfl ?_
  refine z_iload_n dL_law_1103 rfl ?_
  refine z_iconst (r := 1) dL_law_1104 (by decide) ?_
  refine z_iadd dL_law_1105 rfl ?_
  refine z_sld (law_v1 hL h) dL_law_1106 ?_
  refine z_ti (law_x1 g.2.2.2.2.2.2 hL h) ?_
  refine z_callV (As := [.int (g.2.2.2.2.2.2 (i + 1))]) zcX11 zkL_148 ziX11_image zqX11_image h11.1 (tX11_image T 0 (g.2.2.2.2.2.2 (i + 1)) S h11 (r, S1) h1) rfl rfl (Nat.le_of_ble_eq_true rfl) (by decide) ⟨Nat.le_refl _, Nat.le_refl _⟩ hle dL_law_1107 ?_
  refine z_aload_n dL_law_1110 rfl ?_
  refine z_aload_n dL_law_1111 rfl ?_
  refine z_iload_n dL_law_1112 rfl ?_
  refine z_iconst (r := 1) dL_law_1113 (by decide) ?_
  refine z_iadd dL_law_1114 rfl ?_
  refine z_sld (law_v1 hL h) dL_law_1115 ?_
  refine z_ti (law_x1 g.2.2.2.2.2.2 hL h) ?_
  refine z_callV (As := [.int (g.2.2.2.2.2.2 (i + 1))]) zcX12 zkL_151 ziX12_image zqX12_image h12.1 (tX12_image T 187 (g.2.2.2.2.2.2 (i + 1)) S1 h12 (r, S2) h2) rfl rfl (Nat.le_of_ble_eq_true rfl) (by decide) ⟨Nat.le_refl _, Nat.le_refl _⟩ hle dL_law_1116 ?_
  refine z_icmp_eq (tgt := 1147) dL_law_1119 (by decide) (fun _ => ?_) (fun q => absurd rfl q)
  exact k
set_option maxHeartbeats 4000000 in
set_option maxRecDepth 100000 in
theorem law_c33 {r : Int32} {S1 : zS} {S2 : zS} (hL : g.2.2.2.2.2.1 ≤ 3072) (h : i + 6 ≤ g.2.2.2.2.2.1) (h11 : iX11 T 0) (h12 : iX12 T 187) (hle : T.1 ≤ T'.1 ∧ T.2.1 ≤ T'.2.1) (h1 : fX11_back T 0 (g.2.2.2.2.2.2 (i + 1)) S = some (r, S1)) (h2 : fX12_back T 187 (g.2.2.2.2.2.2 (i + 1)) S1 = some (r, S2)) (k : zg g 1312 (mL nm) T0 1147 [some (.ref 10001), some (.ref 0), some (.ref 187), some (.int (nI i))] [] T S2 v T' S') (hx : g.2.2.2.2.2.2 (i + 0) &&& 63 = 33) : zg g 1312 (mL nm) T0 33 [some (.ref 10001), some (.ref 0), some (.ref 187), some (.int (nI i))] [.int (g.2.2.2.2.2.2 (i + 0) &&& 63)] T S v T' S' := by
  refine z_tableIn (off := 1091) (tgt := 1124) dL_law_33 (by rw [hx]; decide) (by rw [hx]; decide) (by rw [hx]; rfl) (by decide) ?_
  refine z_aload_n dL_law_1124 rfl ?_
  refine z_aload_n dL_law_1125 rfl ?_
  refine z_iload_n dL_law_1126 rfl ?_
  refine z_iconst (r := 1) dL_law_1127 (by decide) ?_
  refine z_iadd dL_law_1128 rfl ?_
  refine z_sld (law_v1 hL h) dL_law_1129 ?_
  refine z_ti (law_x1 g.2.2.2.2.2.2 hL h) ?_
  refine z_callV (As := [.int (g.2.2.2.2.2.2 (i + 1))]) zcX11 zkL_152 ziX11_back zqX11_back h11.1 (tX11_back T 0 (g.2.2.2.2.2.2 (i + 1)) S h11 (r, S1) h1) rfl rfl (Nat.le_of_ble_eq_true rfl) (by decide) ⟨Nat.le_refl _, Nat.le_refl _⟩ hle dL_law_1130 ?_
  refine z_aload_n dL_law_1133 rfl ?_
  refine z_aload_n dL_law_1134 rfl ?_
  refine z_iload_n dL_law_1135 rfl ?_
  refine z_iconst (r := 1) dL_law_1136 (by decide) ?_
  refine z_iadd dL_law_1137 rfl ?_
  refine z_sld (law_v1 hL h) dL_law_1138 ?_
  refine z_ti (law_x1 g.2.2.2.2.2.2 hL h) ?_
  refine z_callV (As := [.int (g.2.2.2.2.2.2 (i + 1))]) zcX12 zkL_155 ziX12_back zqX12_back h12.1 (tX12_back T 187 (g.2.2.2.2.2.2 (i + 1)) S1 h12 (r, S2) h2) rfl rfl (Nat.le_of_ble_eq_true rfl) (by decide) ⟨Nat.le_refl _, Nat.le_refl _⟩ hle dL_law_1139 ?_
  refine z_icmp_eq (tgt := 1147) dL_law_1142 (by decide) (fun _ => ?_) (fun q => absurd rfl q)
  exact k
end ZL
def oK0 (I : zT → zS → Prop) : Prop := ∀ (T : zT) (S : zS), I T S → ∀ (x1 x2 x3 x4 x5 : Int32), ∃ (r : Int32) (S1 : zS) (S2 : zS), fX11_feed T 0 x1 x2 x3 x4 x5 S = some (r, S1) ∧ fX12_feed T 187 x1 x2 x3 x4 x5 S1 = some (r, S2) ∧ I T S2
def oK1 (I : zT → zS → Prop) : Prop := ∀ (T : zT) (S : zS), I T S → ∀ (x1 : Int32), ∃ (r : Int32) (S1 : zS) (S2 : zS), fX11_end T 0 x1 S = some (r, S1) ∧ fX12_end T 187 x1 S1 = some (r, S2) ∧ I T S2
def oK2 (I : zT → zS → Prop) : Prop := ∀ (T : zT) (S : zS), I T S → ∃ (r : Int32) (S1 : zS) (S2 : zS), fX11_book T 0  S = some (r, S1) ∧ fX12_book (zQ T (zr T 0 2) 9 (zr T (zr T 0 4) 14)) 187  S1 = some (r, S2) ∧ I (zQ T (zr T 0 2) 9 (zr T (zr T 0 4) 14)) S2
def oK3 (I : zT → zS → Prop) : Prop := ∀ (T : zT) (S : zS), I T S → ∃ (r : Int32) (S1 : zS) (S2 : zS), fX11_rule T 0  S = some (r, S1) ∧ fX12_rule (fX11_ruleT T 0 S) 187  S1 = some (r, S2) ∧ I (fX11_ruleT T 0 S) S2
def oK4 (I : zT → zS → Prop) : Prop := ∀ (T : zT) (S : zS), I T S → ∀ (x1 x2 : Int32), ∃ (r : Int32), fX11_thing T 0 x1 x2 S = some r ∧ fX12_thing T 187 x1 x2 S = some r ∧ I T S
def oK5 (I : zT → zS → Prop) : Prop := ∀ (T : zT) (S : zS), I T S → ∀ (x1 : Int32), ∃ (r : Int32), fX11_count T 0 x1 S = some r ∧ fX12_count T 187 x1 S = some r ∧ I T S
def oK6 (I : zT → zS → Prop) : Prop := ∀ (T : zT) (S : zS), I T S → ∀ (x1 x2 : Int32), ∃ (r : Int32), fX11_owed T 0 x1 x2 S = some r ∧ fX12_owed T 187 x1 x2 S = some r ∧ I T S
def oK7 (I : zT → zS → Prop) : Prop := ∀ (T : zT) (S : zS), I T S → ∀ (x1 x2 x3 : Int32), ∃ (r : Int32) (S1 : zS) (S2 : zS), fX11_earned T 0 x1 x2 x3 S = some (r, S1) ∧ fX12_earned T 187 x1 x2 x3 S1 = some (r, S2) ∧ I T S2
def oK8 (I : zT → zS → Prop) : Prop := ∀ (T : zT) (S : zS), I T S → ∀ (x1 x2 x3 : Int32), ∃ (r : Int32) (S1 : zS) (S2 : zS), fX11_act T 0 x1 x2 x3 S = some (r, S1) ∧ fX12_act T 187 x1 x2 x3 S1 = some (r, S2) ∧ I T S2
def oK9 (I : zT → zS → Prop) : Prop := ∀ (T : zT) (S : zS), I T S → ∀ (x1 : Int32), ∃ (r : Int32) (S1 : zS) (S2 : zS), fX11_row T 0 x1 S = some (r, S1) ∧ fX12_row T 187 x1 S1 = some (r, S2) ∧ I T S2
def oK10 (I : zT → zS → Prop) : Prop := ∀ (T : zT) (S : zS), I T S → ∀ (x1 : Int32), ∃ (r : Int32) (S1 : zS) (S2 : zS), fX11_judged T 0 x1 S = some (r, S1) ∧ fX12_judged T 187 x1 S1 = some (r, S2) ∧ I T S2
def oK11 (I : zT → zS → Prop) : Prop := ∀ (T : zT) (S : zS), I T S → ∀ (x1 x2 : Int32), ∃ (r : Int32) (S1 : zS) (S2 : zS), fX11_then T 0 x1 x2 S = some (r, S1) ∧ fX12_then T 187 x1 x2 S1 = some (r, S2) ∧ I T S2
def oK12 (I : zT → zS → Prop) : Prop := ∀ (T : zT) (S : zS), I T S → ∃ (r : Int32) (S1 : zS) (S2 : zS), fX11_soon T 0  S = some (r, S1) ∧ fX12_soon T 187  S1 = some (r, S2) ∧ I T S2
def oK13 (I : zT → zS → Prop) : Prop := ∀ (T : zT) (S : zS), I T S → ∀ (x1 : Int32), ∃ (r : Int32) (S1 : zS) (S2 : zS), fX11_best T 0 x1 S = some (r, S1) ∧ fX12_best T 187 x1 S1 = some (r, S2) ∧ I T S2
def oK14 (I : zT → zS → Prop) : Prop := ∀ (T : zT) (S : zS), I T S → ∀ (x1 : Int32), ∃ (r : Int32) (S1 : zS) (S2 : zS), fX11_fetched T 0 x1 S = some (r, S1) ∧ fX12_fetched T 187 x1 S1 = some (r, S2) ∧ I T S2
def oK15 (I : zT → zS → Prop) : Prop := ∀ (T : zT) (S : zS), I T S → ∀ (x1 : Int32), ∃ (r : Int32) (S1 : zS) (S2 : zS), fX11_hangs T 0 x1 S = some (r, S1) ∧ fX12_hangs T 187 x1 S1 = some (r, S2) ∧ I T S2
def oK16 (I : zT → zS → Prop) : Prop := ∀ (T : zT) (S : zS), I T S → ∃ (r : Int32) (S1 : zS) (S2 : zS), fX11_key T 0  S = some (r, S1) ∧ fX12_key T 187  S1 = some (r, S2) ∧ I T S2
def oK17 (I : zT → zS → Prop) : Prop := ∀ (T : zT) (S : zS), I T S → ∀ (x1 : Int32), ∃ (r : Int32) (S1 : zS) (S2 : zS), fX11_wise T 0 x1 S = some (r, S1) ∧ fX12_wise T 187 x1 S1 = some (r, S2) ∧ I T S2
def oK18 (I : zT → zS → Prop) : Prop := ∀ (T : zT) (S : zS), I T S → ∀ (x1 : Int32), ∃ (r : Int32) (S1 : zS) (S2 : zS), fX11_borrowed T 0 x1 S = some (r, S1) ∧ fX12_borrowed T 187 x1 S1 = some (r, S2) ∧ I T S2
def oK19 (I : zT → zS → Prop) : Prop := ∀ (T : zT) (S : zS), I T S → ∃ (r : Int32) (S1 : zS) (S2 : zS), fX11_when T 0  S = some (r, S1) ∧ fX12_when T 187  S1 = some (r, S2) ∧ I T S2
def oK20 (I : zT → zS → Prop) : Prop := ∀ (T : zT) (S : zS), I T S → ∀ (x1 x2 : Int32), ∃ (r : Int32) (S1 : zS) (S2 : zS), fX11_sold T 0 x1 x2 S = some (r, S1) ∧ fX12_sold T 187 x1 x2 S1 = some (r, S2) ∧ I T S2
def oK21 (I : zT → zS → Prop) : Prop := ∀ (T : zT) (S : zS), I T S → ∀ (x1 : Int32), ∃ (r : Int32) (S1 : zS) (S2 : zS), fX11_selling T 0 x1 S = some (r, S1) ∧ fX12_selling T 187 x1 S1 = some (r, S2) ∧ I T S2
def oK22 (I : zT → zS → Prop) : Prop := ∀ (T : zT) (S : zS), I T S → ∀ (x1 x2 x3 x4 x5 : Int32), ∃ (r : Int64) (S1 : zS) (S2 : zS), fX11_likes T 0 x1 x2 x3 x4 x5 S = some (r, S1) ∧ fX12_likes T 187 x1 x2 x3 x4 x5 S1 = some (r, S2) ∧ I T S2
def oK23 (I : zT → zS → Prop) : Prop := ∀ (T : zT) (S : zS), I T S → ∀ (x1 x2 : Int32), ∃ (r : Int32) (S1 : zS) (S2 : zS), fX11_ruled T 0 x1 x2 S = some (r, S1) ∧ fX12_ruled T 187 x1 x2 S1 = some (r, S2) ∧ I T S2
def oK24 (I : zT → zS → Prop) : Prop := ∀ (T : zT) (S : zS), I T S → ∃ (r : Int32) (S1 : zS) (S2 : zS), fX11_finest T 0  S = some (r, S1) ∧ fX12_finest T 187  S1 = some (r, S2) ∧ I T S2
def oK25 (I : zT → zS → Prop) : Prop := ∀ (T : zT) (S : zS), I T S → ∀ (x1 x2 : Int32), ∃ (r : Int32) (S1 : zS) (S2 : zS), fX11_parts T 0 x1 x2 S = some (r, S1) ∧ fX12_parts T 187 x1 x2 S1 = some (r, S2) ∧ I T S2
def oK26 (I : zT → zS → Prop) : Prop := ∀ (T : zT) (S : zS), I T S → ∀ (x1 x2 : Int32), ∃ (r : Int32) (S1 : zS) (S2 : zS), fX11_holds T 0 x1 x2 S = some (r, S1) ∧ fX12_holds T 187 x1 x2 S1 = some (r, S2) ∧ I T S2
def oK27 (I : zT → zS → Prop) : Prop := ∀ (T : zT) (S : zS), I T S → ∀ (x1 x2 x3 : Int32), ∃ (r : Int32) (S1 : zS) (S2 : zS), fX11_goes T 0 x1 x2 x3 S = some (r, S1) ∧ fX12_goes T 187 x1 x2 x3 S1 = some (r, S2) ∧ I T S2
def oK28 (I : zT → zS → Prop) : Prop := ∀ (T : zT) (S : zS), I T S → ∃ (r : Int32) (S1 : zS) (S2 : zS), fX11_surely T 0  S = some (r, S1) ∧ fX12_surely T 187  S1 = some (r, S2) ∧ I T S2
def oK29 (I : zT → zS → Prop) : Prop := ∀ (T : zT) (S : zS), I T S → ∀ (x1 x2 : Int32), ∃ (r : Int32) (S1 : zS) (S2 : zS), fX11_most T 0 x1 x2 S = some (r, S1) ∧ fX12_most T 187 x1 x2 S1 = some (r, S2) ∧ I T S2
def oK30 (I : zT → zS → Prop) : Prop := ∀ (T : zT) (S : zS), I T S → ∀ (x1 x2 : Int32), ∃ (r : Int32), fX11_needed T 0 x1 x2 S = some r ∧ fX12_needed T 187 x1 x2 S = some r ∧ I T S
def oK31 (I : zT → zS → Prop) : Prop := ∀ (T : zT) (S : zS), I T S → ∀ (x1 x2 x3 : Int32), ∃ (r : Int32) (S1 : zS) (S2 : zS), fX11_pays T 0 x1 x2 x3 S = some (r, S1) ∧ fX12_pays T 187 x1 x2 x3 S1 = some (r, S2) ∧ I T S2
def oK32 (I : zT → zS → Prop) : Prop := ∀ (T : zT) (S : zS), I T S → ∀ (x1 : Int32), ∃ (r : Int32) (S1 : zS) (S2 : zS), fX11_image T 0 x1 S = some (r, S1) ∧ fX12_image T 187 x1 S1 = some (r, S2) ∧ I T S2
def oK33 (I : zT → zS → Prop) : Prop := ∀ (T : zT) (S : zS), I T S → ∀ (x1 : Int32), ∃ (r : Int32) (S1 : zS) (S2 : zS), fX11_back T 0 x1 S = some (r, S1) ∧ fX12_back T 187 x1 S1 = some (r, S2) ∧ I T S2
set_option maxHeartbeats 4000000 in
set_option maxRecDepth 100000 in
theorem law_loop_open {g : zG} {nm : String} {T0 : zT} (I : zT → zS → Prop) (hL : g.2.2.2.2.2.1 ≤ 3072) (hw : ∀ T S, I T S → iX11 T 0 ∧ iX12 T 187 ∧ T.1 = 230 ∧ T.2.1 = TT462.2.1) (o0 : oK0 I) (o1 : oK1 I) (o2 : oK2 I) (o3 : oK3 I) (o4 : oK4 I) (o5 : oK5 I) (o6 : oK6 I) (o7 : oK7 I) (o8 : oK8 I) (o9 : oK9 I) (o10 : oK10 I) (o11 : oK11 I) (o12 : oK12 I) (o13 : oK13 I) (o14 : oK14 I) (o15 : oK15 I) (o16 : oK16 I) (o17 : oK17 I) (o18 : oK18 I) (o19 : oK19 I) (o20 : oK20 I) (o21 : oK21 I) (o22 : oK22 I) (o23 : oK23 I) (o24 : oK24 I) (o25 : oK25 I) (o26 : oK26 I) (o27 : oK27 I) (o28 : oK28 I) (o29 : oK29 I) (o30 : oK30 I) (o31 : oK31 I) (o32 : oK32 I) (o33 : oK33 I) : ∀ (n i : Nat) (T : zT) (S : zS), i ≤ 3078 → 3079 ≤ i + n → I T S → ∃ (T' : zT) (S' : zS), I T' S' ∧ zg g 1312 (mL nm) T0 18 [some (.ref 10001), some (.ref 0), some (.ref 187), some (.int (nI i))] [] T S (some (.int 1)) T' S' := by
  intro n
  induction n with
  | zero =>
    intro i T S h1 h2
    omega
  | succ n ih =>
    intro i T S hi hn hI
    by_cases h6 : i + 6 ≤ g.2.2.2.2.2.1
    case neg => exact ⟨T, S, hI, law_end hL hi h6⟩
    by_cases q0 : g.2.2.2.2.2.2 (i + 0) &&& 63 = 0
    · obtain ⟨r, S1, S2, h1, h2, hI2⟩ := o0 T S hI (g.2.2.2.2.2.2 (i + 1)) (g.2.2.2.2.2.2 (i + 2)) (g.2.2.2.2.2.2 (i + 3)) (g.2.2.2.2.2.2 (i + 4)) (g.2.2.2.2.2.2 (i + 5))
      obtain ⟨T', S', hI', hz⟩ := ih (i + 6) T _ (by omega) (by omega) hI2
      exact ⟨T', S', hI', law_hd hL (by omega) h6 (law_c0 hL h6 (hw _ _ hI).1 (hw _ _ hI2).2.1 (by have a := hw _ _ hI2; have b := hw _ _ hI'; exact ⟨by omega, by omega⟩) h1 h2 (law_nx hz) q0)⟩
    by_cases q1 : g.2.2.2.2.2.2 (i + 0) &&& 63 = 1
    · obtain ⟨r, S1, S2, h1, h2, hI2⟩ := o1 T S hI (g.2.2.2.2.2.2 (i + 1))
      obtain ⟨T', S', hI', hz⟩ := ih (i + 6) T _ (by omega) (by omega) hI2
      exact ⟨T', S', hI', law_hd hL (by omega) h6 (law_c1 hL h6 (hw _ _ hI).1 (hw _ _ hI2).2.1 (by have a := hw _ _ hI2; have b := hw _ _ hI'; exact ⟨by omega, by omega⟩) h1 h2 (law_nx hz) q1)⟩
    by_cases q2 : g.2.2.2.2.2.2 (i + 0) &&& 63 = 2
    · obtain ⟨r, S1, S2, h1, h2, hI2⟩ := o2 T S hI 
      obtain ⟨T', S', hI', hz⟩ := ih (i + 6) (zQ T (zr T 0 2) 9 (zr T (zr T 0 4) 14)) _ (by omega) (by omega) hI2
      exact ⟨T', S', hI', law_hd hL (by omega) h6 (law_c2 hL h6 (hw _ _ hI).1 (hw _ _ hI2).2.1 (by have a := hw _ _ hI; have b := hw _ _ hI2; exact ⟨by omega, by omega⟩) (by have a := hw _ _ hI2; have b := hw _ _ hI'; exact ⟨by omega, by omega⟩) h1 h2 (law_nx hz) q2)⟩
    by_cases q3 : g.2.2.2.2.2.2 (i + 0) &&& 63 = 3
    · obtain ⟨r, S1, S2, h1, h2, hI2⟩ := o3 T S hI 
      obtain ⟨T', S', hI', hz⟩ := ih (i + 6) (fX11_ruleT T 0 S) _ (by omega) (by omega) hI2
      exact ⟨T', S', hI', law_hd hL (by omega) h6 (law_c3 hL h6 (hw _ _ hI).1 (hw _ _ hI2).2.1 (by have a := hw _ _ hI; have b := hw _ _ hI2; exact ⟨by omega, by omega⟩) (by have a := hw _ _ hI2; have b := hw _ _ hI'; exact ⟨by omega, by omega⟩) h1 h2 (law_nx hz) q3)⟩
    by_cases q4 : g.2.2.2.2.2.2 (i + 0) &&& 63 = 4
    · obtain ⟨r, h1, h2, hI2⟩ := o4 T S hI (g.2.2.2.2.2.2 (i + 1)) (g.2.2.2.2.2.2 (i + 2))
      obtain ⟨T', S', hI', hz⟩ := ih (i + 6) T _ (by omega) (by omega) hI2
      exact ⟨T', S', hI', law_hd hL (by omega) h6 (law_c4 hL h6 (hw _ _ hI).1 (hw _ _ hI2).2.1 (by have a := hw _ _ hI2; have b := hw _ _ hI'; exact ⟨by omega, by omega⟩) h1 h2 (law_nx hz) q4)⟩
    by_cases q5 : g.2.2.2.2.2.2 (i + 0) &&& 63 = 5
    · obtain ⟨r, h1, h2, hI2⟩ := o5 T S hI (g.2.2.2.2.2.2 (i + 1))
      obtain ⟨T', S', hI', hz⟩ := ih (i + 6) T _ (by omega) (by omega) hI2
      exact ⟨T', S', hI', law_hd hL (by omega) h6 (law_c5 hL h6 (hw _ _ hI).1 (hw _ _ hI2).2.1 (by have a := hw _ _ hI2; have b := hw _ _ hI'; exact ⟨by omega, by omega⟩) h1 h2 (law_nx hz) q5)⟩
    by_cases q6 : g.2.2.2.2.2.2 (i + 0) &&& 63 = 6
    · obtain ⟨r, h1, h2, hI2⟩ := o6 T S hI (g.2.2.2.2.2.2 (i + 1)) (g.2.2.2.2.2.2 (i + 2))
      obtain ⟨T', S', hI', hz⟩ := ih (i + 6) T _ (by omega) (by omega) hI2
      exact ⟨T', S', hI', law_hd hL (by omega) h6 (law_c6 hL h6 (hw _ _ hI).1 (hw _ _ hI2).2.1 (by have a := hw _ _ hI2; have b := hw _ _ hI'; exact ⟨by omega, by omega⟩) h1 h2 (law_nx hz) q6)⟩
    by_cases q7 : g.2.2.2.2.2.2 (i + 0) &&& 63 = 7
    · obtain ⟨r, S1, S2, h1, h2, hI2⟩ := o7 T S hI (g.2.2.2.2.2.2 (i + 1)) (g.2.2.2.2.2.2 (i + 2)) (g.2.2.2.2.2.2 (i + 3))
      obtain ⟨T', S', hI', hz⟩ := ih (i + 6) T _ (by omega) (by omega) hI2
      exact ⟨T', S', hI', law_hd hL (by omega) h6 (law_c7 hL h6 (hw _ _ hI).1 (hw _ _ hI2).2.1 (by have a := hw _ _ hI2; have b := hw _ _ hI'; exact ⟨by omega, by omega⟩) h1 h2 (law_nx hz) q7)⟩
    by_cases q8 : g.2.2.2.2.2.2 (i + 0) &&& 63 = 8
    · obtain ⟨r, S1, S2, h1, h2, hI2⟩ := o8 T S hI (g.2.2.2.2.2.2 (i + 1)) (g.2.2.2.2.2.2 (i + 2)) (g.2.2.2.2.2.2 (i + 3))
      obtain ⟨T', S', hI', hz⟩ := ih (i + 6) T _ (by omega) (by omega) hI2
      exact ⟨T', S', hI', law_hd hL (by omega) h6 (law_c8 hL h6 (hw _ _ hI).1 (hw _ _ hI2).2.1 (by have a := hw _ _ hI2; have b := hw _ _ hI'; exact ⟨by omega, by omega⟩) h1 h2 (law_nx hz) q8)⟩
    by_cases q9 : g.2.2.2.2.2.2 (i + 0) &&& 63 = 9
    · obtain ⟨r, S1, S2, h1, h2, hI2⟩ := o9 T S hI (g.2.2.2.2.2.2 (i + 1))
      obtain ⟨T', S', hI', hz⟩ := ih (i + 6) T _ (by omega) (by omega) hI2
      exact ⟨T', S', hI', law_hd hL (by omega) h6 (law_c9 hL h6 (hw _ _ hI).1 (hw _ _ hI2).2.1 (by have a := hw _ _ hI2; have b := hw _ _ hI'; exact ⟨by omega, by omega⟩) h1 h2 (law_nx hz) q9)⟩
    by_cases q10 : g.2.2.2.2.2.2 (i + 0) &&& 63 = 10
    · obtain ⟨r, S1, S2, h1, h2, hI2⟩ := o10 T S hI (g.2.2.2.2.2.2 (i + 1))
      obtain ⟨T', S', hI', hz⟩ := ih (i + 6) T _ (by omega) (by omega) hI2
      exact ⟨T', S', hI', law_hd hL (by omega) h6 (law_c10 hL h6 (hw _ _ hI).1 (hw _ _ hI2).2.1 (by have a := hw _ _ hI2; have b := hw _ _ hI'; exact ⟨by omega, by omega⟩) h1 h2 (law_nx hz) q10)⟩
    by_cases q11 : g.2.2.2.2.2.2 (i + 0) &&& 63 = 11
    · obtain ⟨r, S1, S2, h1, h2, hI2⟩ := o11 T S hI (g.2.2.2.2.2.2 (i + 1)) (g.2.2.2.2.2.2 (i + 2))
      obtain ⟨T', S', hI', hz⟩ := ih (i + 6) T _ (by omega) (by omega) hI2
      exact ⟨T', S', hI', law_hd hL (by omega) h6 (law_c11 hL h6 (hw _ _ hI).1 (hw _ _ hI2).2.1 (by have a := hw _ _ hI2; have b := hw _ _ hI'; exact ⟨by omega, by omega⟩) h1 h2 (law_nx hz) q11)⟩
    by_cases q12 : g.2.2.2.2.2.2 (i + 0) &&& 63 = 12
    · obtain ⟨r, S1, S2, h1, h2, hI2⟩ := o12 T S hI 
      obtain ⟨T', S', hI', hz⟩ := ih (i + 6) T _ (by omega) (by omega) hI2
      exact ⟨T', S', hI', law_hd hL (by omega) h6 (law_c12 hL h6 (hw _ _ hI).1 (hw _ _ hI2).2.1 (by have a := hw _ _ hI2; have b := hw _ _ hI'; exact ⟨by omega, by omega⟩) h1 h2 (law_nx hz) q12)⟩
    by_cases q13 : g.2.2.2.2.2.2 (i + 0) &&& 63 = 13
    · obtain ⟨r, S1, S2, h1, h2, hI2⟩ := o13 T S hI (g.2.2.2.2.2.2 (i + 1))
      obtain ⟨T', S', hI', hz⟩ := ih (i + 6) T _ (by omega) (by omega) hI2
      exact ⟨T', S', hI', law_hd hL (by omega) h6 (law_c13 hL h6 (hw _ _ hI).1 (hw _ _ hI2).2.1 (by have a := hw _ _ hI2; have b := hw _ _ hI'; exact ⟨by omega, by omega⟩) h1 h2 (law_nx hz) q13)⟩
    by_cases q14 : g.2.2.2.2.2.2 (i + 0) &&& 63 = 14
    · obtain ⟨r, S1, S2, h1, h2, hI2⟩ := o14 T S hI (g.2.2.2.2.2.2 (i + 1))
      obtain ⟨T', S', hI', hz⟩ := ih (i + 6) T _ (by omega) (by omega) hI2
      exact ⟨T', S', hI', law_hd hL (by omega) h6 (law_c14 hL h6 (hw _ _ hI).1 (hw _ _ hI2).2.1 (by have a := hw _ _ hI2; have b := hw _ _ hI'; exact ⟨by omega, by omega⟩) h1 h2 (law_nx hz) q14)⟩
    by_cases q15 : g.2.2.2.2.2.2 (i + 0) &&& 63 = 15
    · obtain ⟨r, S1, S2, h1, h2, hI2⟩ := o15 T S hI (g.2.2.2.2.2.2 (i + 1))
      obtain ⟨T', S', hI', hz⟩ := ih (i + 6) T _ (by omega) (by omega) hI2
      exact ⟨T', S', hI', law_hd hL (by omega) h6 (law_c15 hL h6 (hw _ _ hI).1 (hw _ _ hI2).2.1 (by have a := hw _ _ hI2; have b := hw _ _ hI'; exact ⟨by omega, by omega⟩) h1 h2 (law_nx hz) q15)⟩
    by_cases q16 : g.2.2.2.2.2.2 (i + 0) &&& 63 = 16
    · obtain ⟨r, S1, S2, h1, h2, hI2⟩ := o16 T S hI 
      obtain ⟨T', S', hI', hz⟩ := ih (i + 6) T _ (by omega) (by omega) hI2
      exact ⟨T', S', hI', law_hd hL (by omega) h6 (law_c16 hL h6 (hw _ _ hI).1 (hw _ _ hI2).2.1 (by have a := hw _ _ hI2; have b := hw _ _ hI'; exact ⟨by omega, by omega⟩) h1 h2 (law_nx hz) q16)⟩
    by_cases q17 : g.2.2.2.2.2.2 (i + 0) &&& 63 = 17
    · obtain ⟨r, S1, S2, h1, h2, hI2⟩ := o17 T S hI (g.2.2.2.2.2.2 (i + 1))
      obtain ⟨T', S', hI', hz⟩ := ih (i + 6) T _ (by omega) (by omega) hI2
      exact ⟨T', S', hI', law_hd hL (by omega) h6 (law_c17 hL h6 (hw _ _ hI).1 (hw _ _ hI2).2.1 (by have a := hw _ _ hI2; have b := hw _ _ hI'; exact ⟨by omega, by omega⟩) h1 h2 (law_nx hz) q17)⟩
    by_cases q18 : g.2.2.2.2.2.2 (i + 0) &&& 63 = 18
    · obtain ⟨r, S1, S2, h1, h2, hI2⟩ := o18 T S hI (g.2.2.2.2.2.2 (i + 1))
      obtain ⟨T', S', hI', hz⟩ := ih (i + 6) T _ (by omega) (by omega) hI2
      exact ⟨T', S', hI', law_hd hL (by omega) h6 (law_c18 hL h6 (hw _ _ hI).1 (hw _ _ hI2).2.1 (by have a := hw _ _ hI2; have b := hw _ _ hI'; exact ⟨by omega, by omega⟩) h1 h2 (law_nx hz) q18)⟩
    by_cases q19 : g.2.2.2.2.2.2 (i + 0) &&& 63 = 19
    · obtain ⟨r, S1, S2, h1, h2, hI2⟩ := o19 T S hI 
      obtain ⟨T', S', hI', hz⟩ := ih (i + 6) T _ (by omega) (by omega) hI2
      exact ⟨T', S', hI', law_hd hL (by omega) h6 (law_c19 hL h6 (hw _ _ hI).1 (hw _ _ hI2).2.1 (by have a := hw _ _ hI2; have b := hw _ _ hI'; exact ⟨by omega, by omega⟩) h1 h2 (law_nx hz) q19)⟩
    by_cases q20 : g.2.2.2.2.2.2 (i + 0) &&& 63 = 20
    · obtain ⟨r, S1, S2, h1, h2, hI2⟩ := o20 T S hI (g.2.2.2.2.2.2 (i + 1)) (g.2.2.2.2.2.2 (i + 2))
      obtain ⟨T', S', hI', hz⟩ := ih (i + 6) T _ (by omega) (by omega) hI2
      exact ⟨T', S', hI', law_hd hL (by omega) h6 (law_c20 hL h6 (hw _ _ hI).1 (hw _ _ hI2).2.1 (by have a := hw _ _ hI2; have b := hw _ _ hI'; exact ⟨by omega, by omega⟩) h1 h2 (law_nx hz) q20)⟩
    by_cases q21 : g.2.2.2.2.2.2 (i + 0) &&& 63 = 21
    · obtain ⟨r, S1, S2, h1, h2, hI2⟩ := o21 T S hI (g.2.2.2.2.2.2 (i + 1))
      obtain ⟨T', S', hI', hz⟩ := ih (i + 6) T _ (by omega) (by omega) hI2
      exact ⟨T', S', hI', law_hd hL (by omega) h6 (law_c21 hL h6 (hw _ _ hI).1 (hw _ _ hI2).2.1 (by have a := hw _ _ hI2; have b := hw _ _ hI'; exact ⟨by omega, by omega⟩) h1 h2 (law_nx hz) q21)⟩
    by_cases q22 : g.2.2.2.2.2.2 (i + 0) &&& 63 = 22
    · obtain ⟨r, S1, S2, h1, h2, hI2⟩ := o22 T S hI (g.2.2.2.2.2.2 (i + 1)) (g.2.2.2.2.2.2 (i + 2)) (g.2.2.2.2.2.2 (i + 3)) (g.2.2.2.2.2.2 (i + 4)) (g.2.2.2.2.2.2 (i + 5))
      obtain ⟨T', S', hI', hz⟩ := ih (i + 6) T _ (by omega) (by omega) hI2
      exact ⟨T', S', hI', law_hd hL (by omega) h6 (law_c22 hL h6 (hw _ _ hI).1 (hw _ _ hI2).2.1 (by have a := hw _ _ hI2; have b := hw _ _ hI'; exact ⟨by omega, by omega⟩) h1 h2 (law_nx hz) q22)⟩
    by_cases q23 : g.2.2.2.2.2.2 (i + 0) &&& 63 = 23
    · obtain ⟨r, S1, S2, h1, h2, hI2⟩ := o23 T S hI (g.2.2.2.2.2.2 (i + 1)) (g.2.2.2.2.2.2 (i + 2))
      obtain ⟨T', S', hI', hz⟩ := ih (i + 6) T _ (by omega) (by omega) hI2
      exact ⟨T', S', hI', law_hd hL (by omega) h6 (law_c23 hL h6 (hw _ _ hI).1 (hw _ _ hI2).2.1 (by have a := hw _ _ hI2; have b := hw _ _ hI'; exact ⟨by omega, by omega⟩) h1 h2 (law_nx hz) q23)⟩
    by_cases q24 : g.2.2.2.2.2.2 (i + 0) &&& 63 = 24
    · obtain ⟨r, S1, S2, h1, h2, hI2⟩ := o24 T S hI 
      obtain ⟨T', S', hI', hz⟩ := ih (i + 6) T _ (by omega) (by omega) hI2
      exact ⟨T', S', hI', law_hd hL (by omega) h6 (law_c24 hL h6 (hw _ _ hI).1 (hw _ _ hI2).2.1 (by have a := hw _ _ hI2; have b := hw _ _ hI'; exact ⟨by omega, by omega⟩) h1 h2 (law_nx hz) q24)⟩
    by_cases q25 : g.2.2.2.2.2.2 (i + 0) &&& 63 = 25
    · obtain ⟨r, S1, S2, h1, h2, hI2⟩ := o25 T S hI (g.2.2.2.2.2.2 (i + 1)) (g.2.2.2.2.2.2 (i + 2))
      obtain ⟨T', S', hI', hz⟩ := ih (i + 6) T _ (by omega) (by omega) hI2
      exact ⟨T', S', hI', law_hd hL (by omega) h6 (law_c25 hL h6 (hw _ _ hI).1 (hw _ _ hI2).2.1 (by have a := hw _ _ hI2; have b := hw _ _ hI'; exact ⟨by omega, by omega⟩) h1 h2 (law_nx hz) q25)⟩
    by_cases q26 : g.2.2.2.2.2.2 (i + 0) &&& 63 = 26
    · obtain ⟨r, S1, S2, h1, h2, hI2⟩ := o26 T S hI (g.2.2.2.2.2.2 (i + 1)) (g.2.2.2.2.2.2 (i + 2))
      obtain ⟨T', S', hI', hz⟩ := ih (i + 6) T _ (by omega) (by omega) hI2
      exact ⟨T', S', hI', law_hd hL (by omega) h6 (law_c26 hL h6 (hw _ _ hI).1 (hw _ _ hI2).2.1 (by have a := hw _ _ hI2; have b := hw _ _ hI'; exact ⟨by omega, by omega⟩) h1 h2 (law_nx hz) q26)⟩
    by_cases q27 : g.2.2.2.2.2.2 (i + 0) &&& 63 = 27
    · obtain ⟨r, S1, S2, h1, h2, hI2⟩ := o27 T S hI (g.2.2.2.2.2.2 (i + 1)) (g.2.2.2.2.2.2 (i + 2)) (g.2.2.2.2.2.2 (i + 3))
      obtain ⟨T', S', hI', hz⟩ := ih (i + 6) T _ (by omega) (by omega) hI2
      exact ⟨T', S', hI', law_hd hL (by omega) h6 (law_c27 hL h6 (hw _ _ hI).1 (hw _ _ hI2).2.1 (by have a := hw _ _ hI2; have b := hw _ _ hI'; exact ⟨by omega, by omega⟩) h1 h2 (law_nx hz) q27)⟩
    by_cases q28 : g.2.2.2.2.2.2 (i + 0) &&& 63 = 28
    · obtain ⟨r, S1, S2, h1, h2, hI2⟩ := o28 T S hI 
      obtain ⟨T', S', hI', hz⟩ := ih (i + 6) T _ (by omega) (by omega) hI2
      exact ⟨T', S', hI', law_hd hL (by omega) h6 (law_c28 hL h6 (hw _ _ hI).1 (hw _ _ hI2).2.1 (by have a := hw _ _ hI2; have b := hw _ _ hI'; exact ⟨by omega, by omega⟩) h1 h2 (law_nx hz) q28)⟩
    by_cases q29 : g.2.2.2.2.2.2 (i + 0) &&& 63 = 29
    · obtain ⟨r, S1, S2, h1, h2, hI2⟩ := o29 T S hI (g.2.2.2.2.2.2 (i + 1)) (g.2.2.2.2.2.2 (i + 2))
      obtain ⟨T', S', hI', hz⟩ := ih (i + 6) T _ (by omega) (by omega) hI2
      exact ⟨T', S', hI', law_hd hL (by omega) h6 (law_c29 hL h6 (hw _ _ hI).1 (hw _ _ hI2).2.1 (by have a := hw _ _ hI2; have b := hw _ _ hI'; exact ⟨by omega, by omega⟩) h1 h2 (law_nx hz) q29)⟩
    by_cases q30 : g.2.2.2.2.2.2 (i + 0) &&& 63 = 30
    · obtain ⟨r, h1, h2, hI2⟩ := o30 T S hI (g.2.2.2.2.2.2 (i + 1)) (g.2.2.2.2.2.2 (i + 2))
      obtain ⟨T', S', hI', hz⟩ := ih (i + 6) T _ (by omega) (by omega) hI2
      exact ⟨T', S', hI', law_hd hL (by omega) h6 (law_c30 hL h6 (hw _ _ hI).1 (hw _ _ hI2).2.1 (by have a := hw _ _ hI2; have b := hw _ _ hI'; exact ⟨by omega, by omega⟩) h1 h2 (law_nx hz) q30)⟩
    by_cases q31 : g.2.2.2.2.2.2 (i + 0) &&& 63 = 31
    · obtain ⟨r, S1, S2, h1, h2, hI2⟩ := o31 T S hI (g.2.2.2.2.2.2 (i + 1)) (g.2.2.2.2.2.2 (i + 2)) (g.2.2.2.2.2.2 (i + 3))
      obtain ⟨T', S', hI', hz⟩ := ih (i + 6) T _ (by omega) (by omega) hI2
      exact ⟨T', S', hI', law_hd hL (by omega) h6 (law_c31 hL h6 (hw _ _ hI).1 (hw _ _ hI2).2.1 (by have a := hw _ _ hI2; have b := hw _ _ hI'; exact ⟨by omega, by omega⟩) h1 h2 (law_nx hz) q31)⟩
    by_cases q32 : g.2.2.2.2.2.2 (i + 0) &&& 63 = 32
    · obtain ⟨r, S1, S2, h1, h2, hI2⟩ := o32 T S hI (g.2.2.2.2.2.2 (i + 1))
      obtain ⟨T', S', hI', hz⟩ := ih (i + 6) T _ (by omega) (by omega) hI2
      exact ⟨T', S', hI', law_hd hL (by omega) h6 (law_c32 hL h6 (hw _ _ hI).1 (hw _ _ hI2).2.1 (by have a := hw _ _ hI2; have b := hw _ _ hI'; exact ⟨by omega, by omega⟩) h1 h2 (law_nx hz) q32)⟩
    by_cases q33 : g.2.2.2.2.2.2 (i + 0) &&& 63 = 33
    · obtain ⟨r, S1, S2, h1, h2, hI2⟩ := o33 T S hI (g.2.2.2.2.2.2 (i + 1))
      obtain ⟨T', S', hI', hz⟩ := ih (i + 6) T _ (by omega) (by omega) hI2
      exact ⟨T', S', hI', law_hd hL (by omega) h6 (law_c33 hL h6 (hw _ _ hI).1 (hw _ _ hI2).2.1 (by have a := hw _ _ hI2; have b := hw _ _ hI'; exact ⟨by omega, by omega⟩) h1 h2 (law_nx hz) q33)⟩
    obtain ⟨T', S', hI', hz⟩ := ih (i + 6) T S (by omega) (by omega) hI
    refine ⟨T', S', hI', law_hd hL (by omega) h6 (law_df (fun q => ?_) (law_nx hz))⟩
    generalize g.2.2.2.2.2.2 (i + 0) &&& 63 = y at *
    have q0i : ¬ y.toInt = 0 := zneI q0 (by decide)
    have q1i : ¬ y.toInt = 1 := zneI q1 (by decide)
    have q2i : ¬ y.toInt = 2 := zneI q2 (by decide)
    have q3i : ¬ y.toInt = 3 := zneI q3 (by decide)
    have q4i : ¬ y.toInt = 4 := zneI q4 (by decide)
    have q5i : ¬ y.toInt = 5 := zneI q5 (by decide)
    have q6i : ¬ y.toInt = 6 := zneI q6 (by decide)
    have q7i : ¬ y.toInt = 7 := zneI q7 (by decide)
    have q8i : ¬ y.toInt = 8 := zneI q8 (by decide)
    have q9i : ¬ y.toInt = 9 := zneI q9 (by decide)
    have q10i : ¬ y.toInt = 10 := zneI q10 (by decide)
    have q11i : ¬ y.toInt = 11 := zneI q11 (by decide)
    have q12i : ¬ y.toInt = 12 := zneI q12 (by decide)
    have q13i : ¬ y.toInt = 13 := zneI q13 (by decide)
    have q14i : ¬ y.toInt = 14 := zneI q14 (by decide)
    have q15i : ¬ y.toInt = 15 := zneI q15 (by decide)
    have q16i : ¬ y.toInt = 16 := zneI q16 (by decide)
    have q17i : ¬ y.toInt = 17 := zneI q17 (by decide)
    have q18i : ¬ y.toInt = 18 := zneI q18 (by decide)
    have q19i : ¬ y.toInt = 19 := zneI q19 (by decide)
    have q20i : ¬ y.toInt = 20 := zneI q20 (by decide)
    have q21i : ¬ y.toInt = 21 := zneI q21 (by decide)
    have q22i : ¬ y.toInt = 22 := zneI q22 (by decide)
    have q23i : ¬ y.toInt = 23 := zneI q23 (by decide)
    have q24i : ¬ y.toInt = 24 := zneI q24 (by decide)
    have q25i : ¬ y.toInt = 25 := zneI q25 (by decide)
    have q26i : ¬ y.toInt = 26 := zneI q26 (by decide)
    have q27i : ¬ y.toInt = 27 := zneI q27 (by decide)
    have q28i : ¬ y.toInt = 28 := zneI q28 (by decide)
    have q29i : ¬ y.toInt = 29 := zneI q29 (by decide)
    have q30i : ¬ y.toInt = 30 := zneI q30 (by decide)
    have q31i : ¬ y.toInt = 31 := zneI q31 (by decide)
    have q32i : ¬ y.toInt = 32 := zneI q32 (by decide)
    have q33i : ¬ y.toInt = 33 := zneI q33 (by decide)
    omega
