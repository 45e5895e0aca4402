/-! THE CLAIM OUT OF ONE WALK OF THE LAW'S BODY. Your part is whole_start (and what it stands on); all else here is the same for every law, but numbers. -/
def R_law : String := "OutOfPawnLaw"
def lw_P (b : Addr) (xs : List Int32) (args : Array Value) (s : State) : Prop := args = #[.ref b] ∧ s.IntsAt b xs ∧ xs.length ≤ 3072 ∧ (Jvm.Cond.and given_1 narrow_1).before args s = true
def lw_Q (_ : Array Value) (s : State) (o : Outcome) (t : State) : Prop := o = .returned (some (.int 1)) ∧ Framed s o t [] 600000 7302250
def lw_Z (below : List Frame) (a : Array Value) (s : State) : State → Prop := fun t => ∃ o, t.status = .running ∧ Ended t below o ∧ lw_Q a s o t
/-- the law's own end, with 1 on the stack, nothing written that was there before, its room as the claim has it -/
theorem lw_ret {p : Program} {l : Launch} {e : Env} {s : State} {m : MethodId} {below : List Frame} {meth : Method} {c : Code} {b : Nat} (hx : p.tables.exec = Jvm.exec) (hb : c.code = code) (hr : meth.sig.returnType = ret) (hlocks : meth.locks = false) {pc : Nat} {H : Heap} {ls : Array Slot} (hdg : decode code pc = .ok (.ireturn, 1)) : W p l e room_1 s m #[Value.ref b] below meth c H [] 600000 7302250 (lw_Z below #[Value.ref b] s) (F0 m pc ls [.int 1]) := by
  intro T hT X
  obtain ⟨fs, hret, hrun, hended, hW, hframe⟩ := X.leave (v := some (.int 1)) (hlocks := hlocks) (fun h => by rw [hr] at h; cases h)
  have hmeth' : T.vm.method? m = some meth := X.method'
  refine ⟨T.setFrames fs, ?_, .returned (some (.int 1)), hrun, hended, rfl, ⟨_, rfl⟩, hW, hframe⟩
  jvm_step X.here [X.here.top, hx, hb, hdg, hmeth', hr, ret, narrow_b1]
  (try refine ⟨rfl, ?_⟩); (try refine ⟨rfl, ?_⟩)
  first | (intro acts; rw [hret _ acts rfl rfl rfl]) | rw [hret _ _ rfl rfl rfl]
  exact Steps.refl _
/-- what holds at the law's entry: the machine, the code, the tables' words (any of lw_tbl by 'hts w (by decide +kernel)'), the script of L ints xs at the cell b, what the Statement gives of the start (any of its parts by flat_of_before) -/
def lw_At (p : Program) (s : State) (m : MethodId) (meth : Method) (c : Code) (b L : Nat) (xs : Nat → Int32) : Prop :=
  p.tables.exec = Jvm.exec ∧ c.code = code ∧ meth.sig.returnType = ret ∧ c.maxLocals = 4 ∧ s.vm.findClass R_law = some m.cls ∧ (∀ w ∈ lw_tbl, w.before #[Value.ref b] s = true) ∧ va_X b L xs s s.heap ∧ b < s.heap.size ∧ meth.locks = false ∧ (Jvm.Cond.and given_1 narrow_1).before #[Value.ref b] s = true

def oAll (I : zT → zS → Prop) : Prop := (∀ T S, I T S → iX11 T 0 ∧ iX12 T 187 ∧ T.1 = 230 ∧ T.2.1 = TT462.2.1) ∧ (∃ r : Unit × zS, fX12_clears TT462 187 0 SS236 = some r ∧ I TT462 r.2) ∧ oK0 I ∧ oK1 I ∧ oK2 I ∧ oK3 I ∧ oK4 I ∧ oK5 I ∧ oK6 I ∧ oK7 I ∧ oK8 I ∧ oK9 I ∧ oK10 I ∧ oK11 I ∧ oK12 I ∧ oK13 I ∧ oK14 I ∧ oK15 I ∧ oK16 I ∧ oK17 I ∧ oK18 I ∧ oK19 I ∧ oK20 I ∧ oK21 I ∧ oK22 I ∧ oK23 I ∧ oK24 I ∧ oK25 I ∧ oK26 I ∧ oK27 I ∧ oK28 I ∧ oK29 I ∧ oK30 I ∧ oK31 I ∧ oK32 I ∧ oK33 I
theorem zaoX8 : Cond.arrayOver (.object RX8) ∈ lw_tbl := zTc2 _ (List.mem_of_getElem? (i := 21) rfl)
theorem zaoX0 : Cond.arrayOver (.object RX0) ∈ lw_tbl := zTc2 _ (List.mem_of_getElem? (i := 49) rfl)
theorem zaoX7 : Cond.arrayOver (.object RX7) ∈ lw_tbl := zTc2 _ (List.mem_of_getElem? (i := 50) rfl)
theorem zls1 : Cond.laysStatic "java/lang/String" "COMPACT_STRINGS" "Z" ∈ lw_tbl := zTc3 _ (List.mem_of_getElem? (i := 71) rfl)
theorem zls2 : Cond.laysStatic "jdk/internal/util/Preconditions" "SIOOBE_FORMATTER" "Ljava/util/function/BiFunction;" ∈ lw_tbl := zTc3 _ (List.mem_of_getElem? (i := 87) rfl)
theorem zin1 : Cond.initialized "java/lang/String" ∈ lw_tbl := zTc1 _ (List.mem_of_getElem? (i := 14) rfl)
theorem zin2 : Cond.initialized "jdk/internal/util/Preconditions" ∈ lw_tbl := zTc1 _ (List.mem_of_getElem? (i := 16) rfl)
def zTm (i : Nat) : Term := .string (zsE i).1 (zsE i).2.1
def zFl : List Cond := flatC (Jvm.Cond.and given_1 narrow_1)
theorem zfa0 : zFl[48]? = some (Cond.exactly (zTm 0) "java/lang/String") := by decide +kernel
theorem zfb0 : zFl[49]? = some (Cond.eq (.field (zTm 0) "java/lang/String" "coder" "B") (.int 0)) := by decide +kernel
theorem zfc0 : zFl[50]? = some (Cond.arrayOf (.field (zTm 0) "java/lang/String" "value" "[B") .byte) := by decide +kernel
theorem zfd0 : zFl[51]? = some (Cond.eq (.length (.field (zTm 0) "java/lang/String" "value" "[B")) (.int (Int32.ofNat (zsN 0)))) := by decide +kernel
theorem zfe0 : ∀ j, j < zsN 0 → zFl[52 + j]? = some (Cond.eq (.elem (.field (zTm 0) "java/lang/String" "value" "[B") (.int (Int32.ofNat j))) (.int ((zsE 0).2.2.2.getD j 0))) := by decide +kernel
theorem zfa1 : zFl[182]? = some (Cond.exactly (zTm 1) "java/lang/String") := by decide +kernel
theorem zfb1 : zFl[183]? = some (Cond.eq (.field (zTm 1) "java/lang/String" "coder" "B") (.int 0)) := by decide +kernel
theorem zfc1 : zFl[184]? = some (Cond.arrayOf (.field (zTm 1) "java/lang/String" "value" "[B") .byte) := by decide +kernel
theorem zfd1 : zFl[185]? = some (Cond.eq (.length (.field (zTm 1) "java/lang/String" "value" "[B")) (.int (Int32.ofNat (zsN 1)))) := by decide +kernel
theorem zfe1 : ∀ j, j < zsN 1 → zFl[186 + j]? = some (Cond.eq (.elem (.field (zTm 1) "java/lang/String" "value" "[B") (.int (Int32.ofNat j))) (.int ((zsE 1).2.2.2.getD j 0))) := by decide +kernel
theorem zfa2 : zFl[190]? = some (Cond.exactly (zTm 2) "java/lang/String") := by decide +kernel
theorem zfb2 : zFl[191]? = some (Cond.eq (.field (zTm 2) "java/lang/String" "coder" "B") (.int 0)) := by decide +kernel
theorem zfc2 : zFl[192]? = some (Cond.arrayOf (.field (zTm 2) "java/lang/String" "value" "[B") .byte) := by decide +kernel
theorem zfd2 : zFl[193]? = some (Cond.eq (.length (.field (zTm 2) "java/lang/String" "value" "[B")) (.int (Int32.ofNat (zsN 2)))) := by decide +kernel
theorem zfe2 : ∀ j, j < zsN 2 → zFl[194 + j]? = some (Cond.eq (.elem (.field (zTm 2) "java/lang/String" "value" "[B") (.int (Int32.ofNat j))) (.int ((zsE 2).2.2.2.getD j 0))) := by decide +kernel
theorem zfa3 : zFl[198]? = some (Cond.exactly (zTm 3) "java/lang/String") := by decide +kernel
theorem zfb3 : zFl[199]? = some (Cond.eq (.field (zTm 3) "java/lang/String" "coder" "B") (.int 0)) := by decide +kernel
theorem zfc3 : zFl[200]? = some (Cond.arrayOf (.field (zTm 3) "java/lang/String" "value" "[B") .byte) := by decide +kernel
theorem zfd3 : zFl[201]? = some (Cond.eq (.length (.field (zTm 3) "java/lang/String" "value" "[B")) (.int (Int32.ofNat (zsN 3)))) := by decide +kernel
theorem zfe3 : ∀ j, j < zsN 3 → zFl[202 + j]? = some (Cond.eq (.elem (.field (zTm 3) "java/lang/String" "value" "[B") (.int (Int32.ofNat j))) (.int ((zsE 3).2.2.2.getD j 0))) := by decide +kernel
theorem zfa4 : zFl[206]? = some (Cond.exactly (zTm 4) "java/lang/String") := by decide +kernel
theorem zfb4 : zFl[207]? = some (Cond.eq (.field (zTm 4) "java/lang/String" "coder" "B") (.int 0)) := by decide +kernel
theorem zfc4 : zFl[208]? = some (Cond.arrayOf (.field (zTm 4) "java/lang/String" "value" "[B") .byte) := by decide +kernel
theorem zfd4 : zFl[209]? = some (Cond.eq (.length (.field (zTm 4) "java/lang/String" "value" "[B")) (.int (Int32.ofNat (zsN 4)))) := by decide +kernel
theorem zfe4 : ∀ j, j < zsN 4 → zFl[210 + j]? = some (Cond.eq (.elem (.field (zTm 4) "java/lang/String" "value" "[B") (.int (Int32.ofNat j))) (.int ((zsE 4).2.2.2.getD j 0))) := by decide +kernel
theorem zfa5 : zFl[214]? = some (Cond.exactly (zTm 5) "java/lang/String") := by decide +kernel
theorem zfb5 : zFl[215]? = some (Cond.eq (.field (zTm 5) "java/lang/String" "coder" "B") (.int 0)) := by decide +kernel
theorem zfc5 : zFl[216]? = some (Cond.arrayOf (.field (zTm 5) "java/lang/String" "value" "[B") .byte) := by decide +kernel
theorem zfd5 : zFl[217]? = some (Cond.eq (.length (.field (zTm 5) "java/lang/String" "value" "[B")) (.int (Int32.ofNat (zsN 5)))) := by decide +kernel
theorem zfe5 : ∀ j, j < zsN 5 → zFl[218 + j]? = some (Cond.eq (.elem (.field (zTm 5) "java/lang/String" "value" "[B") (.int (Int32.ofNat j))) (.int ((zsE 5).2.2.2.getD j 0))) := by decide +kernel
theorem zfa6 : zFl[222]? = some (Cond.exactly (zTm 6) "java/lang/String") := by decide +kernel
theorem zfb6 : zFl[223]? = some (Cond.eq (.field (zTm 6) "java/lang/String" "coder" "B") (.int 0)) := by decide +kernel
theorem zfc6 : zFl[224]? = some (Cond.arrayOf (.field (zTm 6) "java/lang/String" "value" "[B") .byte) := by decide +kernel
theorem zfd6 : zFl[225]? = some (Cond.eq (.length (.field (zTm 6) "java/lang/String" "value" "[B")) (.int (Int32.ofNat (zsN 6)))) := by decide +kernel
theorem zfe6 : ∀ j, j < zsN 6 → zFl[226 + j]? = some (Cond.eq (.elem (.field (zTm 6) "java/lang/String" "value" "[B") (.int (Int32.ofNat j))) (.int ((zsE 6).2.2.2.getD j 0))) := by decide +kernel
theorem zfa7 : zFl[230]? = some (Cond.exactly (zTm 7) "java/lang/String") := by decide +kernel
theorem zfb7 : zFl[231]? = some (Cond.eq (.field (zTm 7) "java/lang/String" "coder" "B") (.int 0)) := by decide +kernel
theorem zfc7 : zFl[232]? = some (Cond.arrayOf (.field (zTm 7) "java/lang/String" "value" "[B") .byte) := by decide +kernel
theorem zfd7 : zFl[233]? = some (Cond.eq (.length (.field (zTm 7) "java/lang/String" "value" "[B")) (.int (Int32.ofNat (zsN 7)))) := by decide +kernel
theorem zfe7 : ∀ j, j < zsN 7 → zFl[234 + j]? = some (Cond.eq (.elem (.field (zTm 7) "java/lang/String" "value" "[B") (.int (Int32.ofNat j))) (.int ((zsE 7).2.2.2.getD j 0))) := by decide +kernel
theorem zfa8 : zFl[239]? = some (Cond.exactly (zTm 8) "java/lang/String") := by decide +kernel
theorem zfb8 : zFl[240]? = some (Cond.eq (.field (zTm 8) "java/lang/String" "coder" "B") (.int 0)) := by decide +kernel
theorem zfc8 : zFl[241]? = some (Cond.arrayOf (.field (zTm 8) "java/lang/String" "value" "[B") .byte) := by decide +kernel
theorem zfd8 : zFl[242]? = some (Cond.eq (.length (.field (zTm 8) "java/lang/String" "value" "[B")) (.int (Int32.ofNat (zsN 8)))) := by decide +kernel
theorem zfe8 : ∀ j, j < zsN 8 → zFl[243 + j]? = some (Cond.eq (.elem (.field (zTm 8) "java/lang/String" "value" "[B") (.int (Int32.ofNat j))) (.int ((zsE 8).2.2.2.getD j 0))) := by decide +kernel
theorem zfa9 : zFl[247]? = some (Cond.exactly (zTm 9) "java/lang/String") := by decide +kernel
theorem zfb9 : zFl[248]? = some (Cond.eq (.field (zTm 9) "java/lang/String" "coder" "B") (.int 0)) := by decide +kernel
theorem zfc9 : zFl[249]? = some (Cond.arrayOf (.field (zTm 9) "java/lang/String" "value" "[B") .byte) := by decide +kernel
theorem zfd9 : zFl[250]? = some (Cond.eq (.length (.field (zTm 9) "java/lang/String" "value" "[B")) (.int (Int32.ofNat (zsN 9)))) := by decide +kernel
theorem zfe9 : ∀ j, j < zsN 9 → zFl[251 + j]? = some (Cond.eq (.elem (.field (zTm 9) "java/lang/String" "value" "[B") (.int (Int32.ofNat j))) (.int ((zsE 9).2.2.2.getD j 0))) := by decide +kernel
theorem zfa10 : zFl[255]? = some (Cond.exactly (zTm 10) "java/lang/String") := by decide +kernel
theorem zfb10 : zFl[256]? = some (Cond.eq (.field (zTm 10) "java/lang/String" "coder" "B") (.int 0)) := by decide +kernel
theorem zfc10 : zFl[257]? = some (Cond.arrayOf (.field (zTm 10) "java/lang/String" "value" "[B") .byte) := by decide +kernel
theorem zfd10 : zFl[258]? = some (Cond.eq (.length (.field (zTm 10) "java/lang/String" "value" "[B")) (.int (Int32.ofNat (zsN 10)))) := by decide +kernel
theorem zfe10 : ∀ j, j < zsN 10 → zFl[259 + j]? = some (Cond.eq (.elem (.field (zTm 10) "java/lang/String" "value" "[B") (.int (Int32.ofNat j))) (.int ((zsE 10).2.2.2.getD j 0))) := by decide +kernel
theorem zfa11 : zFl[263]? = some (Cond.exactly (zTm 11) "java/lang/String") := by decide +kernel
theorem zfb11 : zFl[264]? = some (Cond.eq (.field (zTm 11) "java/lang/String" "coder" "B") (.int 0)) := by decide +kernel
theorem zfc11 : zFl[265]? = some (Cond.arrayOf (.field (zTm 11) "java/lang/String" "value" "[B") .byte) := by decide +kernel
theorem zfd11 : zFl[266]? = some (Cond.eq (.length (.field (zTm 11) "java/lang/String" "value" "[B")) (.int (Int32.ofNat (zsN 11)))) := by decide +kernel
theorem zfe11 : ∀ j, j < zsN 11 → zFl[267 + j]? = some (Cond.eq (.elem (.field (zTm 11) "java/lang/String" "value" "[B") (.int (Int32.ofNat j))) (.int ((zsE 11).2.2.2.getD j 0))) := by decide +kernel
theorem zfa12 : zFl[269]? = some (Cond.exactly (zTm 12) "java/lang/String") := by decide +kernel
theorem zfb12 : zFl[270]? = some (Cond.eq (.field (zTm 12) "java/lang/String" "coder" "B") (.int 0)) := by decide +kernel
theorem zfc12 : zFl[271]? = some (Cond.arrayOf (.field (zTm 12) "java/lang/String" "value" "[B") .byte) := by decide +kernel
theorem zfd12 : zFl[272]? = some (Cond.eq (.length (.field (zTm 12) "java/lang/String" "value" "[B")) (.int (Int32.ofNat (zsN 12)))) := by decide +kernel
theorem zfe12 : ∀ j, j < zsN 12 → zFl[273 + j]? = some (Cond.eq (.elem (.field (zTm 12) "java/lang/String" "value" "[B") (.int (Int32.ofNat j))) (.int ((zsE 12).2.2.2.getD j 0))) := by decide +kernel
theorem zfa13 : zFl[275]? = some (Cond.exactly (zTm 13) "java/lang/String") := by decide +kernel
theorem zfb13 : zFl[276]? = some (Cond.eq (.field (zTm 13) "java/lang/String" "coder" "B") (.int 0)) := by decide +kernel
theorem zfc13 : zFl[277]? = some (Cond.arrayOf (.field (zTm 13) "java/lang/String" "value" "[B") .byte) := by decide +kernel
theorem zfd13 : zFl[278]? = some (Cond.eq (.length (.field (zTm 13) "java/lang/String" "value" "[B")) (.int (Int32.ofNat (zsN 13)))) := by decide +kernel
theorem zfe13 : ∀ j, j < zsN 13 → zFl[279 + j]? = some (Cond.eq (.elem (.field (zTm 13) "java/lang/String" "value" "[B") (.int (Int32.ofNat j))) (.int ((zsE 13).2.2.2.getD j 0))) := by decide +kernel
theorem zfa14 : zFl[282]? = some (Cond.exactly (zTm 14) "java/lang/String") := by decide +kernel
theorem zfb14 : zFl[283]? = some (Cond.eq (.field (zTm 14) "java/lang/String" "coder" "B") (.int 0)) := by decide +kernel
theorem zfc14 : zFl[284]? = some (Cond.arrayOf (.field (zTm 14) "java/lang/String" "value" "[B") .byte) := by decide +kernel
theorem zfd14 : zFl[285]? = some (Cond.eq (.length (.field (zTm 14) "java/lang/String" "value" "[B")) (.int (Int32.ofNat (zsN 14)))) := by decide +kernel
theorem zfe14 : ∀ j, j < zsN 14 → zFl[286 + j]? = some (Cond.eq (.elem (.field (zTm 14) "java/lang/String" "value" "[B") (.int (Int32.ofNat j))) (.int ((zsE 14).2.2.2.getD j 0))) := by decide +kernel
theorem zfa15 : zFl[289]? = some (Cond.exactly (zTm 15) "java/lang/String") := by decide +kernel
theorem zfb15 : zFl[290]? = some (Cond.eq (.field (zTm 15) "java/lang/String" "coder" "B") (.int 0)) := by decide +kernel
theorem zfc15 : zFl[291]? = some (Cond.arrayOf (.field (zTm 15) "java/lang/String" "value" "[B") .byte) := by decide +kernel
theorem zfd15 : zFl[292]? = some (Cond.eq (.length (.field (zTm 15) "java/lang/String" "value" "[B")) (.int (Int32.ofNat (zsN 15)))) := by decide +kernel
theorem zfe15 : ∀ j, j < zsN 15 → zFl[293 + j]? = some (Cond.eq (.elem (.field (zTm 15) "java/lang/String" "value" "[B") (.int (Int32.ofNat j))) (.int ((zsE 15).2.2.2.getD j 0))) := by decide +kernel
theorem zfa16 : zFl[295]? = some (Cond.exactly (zTm 16) "java/lang/String") := by decide +kernel
theorem zfb16 : zFl[296]? = some (Cond.eq (.field (zTm 16) "java/lang/String" "coder" "B") (.int 0)) := by decide +kernel
theorem zfc16 : zFl[297]? = some (Cond.arrayOf (.field (zTm 16) "java/lang/String" "value" "[B") .byte) := by decide +kernel
theorem zfd16 : zFl[298]? = some (Cond.eq (.length (.field (zTm 16) "java/lang/String" "value" "[B")) (.int (Int32.ofNat (zsN 16)))) := by decide +kernel
theorem zfe16 : ∀ j, j < zsN 16 → zFl[299 + j]? = some (Cond.eq (.elem (.field (zTm 16) "java/lang/String" "value" "[B") (.int (Int32.ofNat j))) (.int ((zsE 16).2.2.2.getD j 0))) := by decide +kernel
theorem zfa17 : zFl[304]? = some (Cond.exactly (zTm 17) "java/lang/String") := by decide +kernel
theorem zfb17 : zFl[305]? = some (Cond.eq (.field (zTm 17) "java/lang/String" "coder" "B") (.int 0)) := by decide +kernel
theorem zfc17 : zFl[306]? = some (Cond.arrayOf (.field (zTm 17) "java/lang/String" "value" "[B") .byte) := by decide +kernel
theorem zfd17 : zFl[307]? = some (Cond.eq (.length (.field (zTm 17) "java/lang/String" "value" "[B")) (.int (Int32.ofNat (zsN 17)))) := by decide +kernel
theorem zfe17 : ∀ j, j < zsN 17 → zFl[308 + j]? = some (Cond.eq (.elem (.field (zTm 17) "java/lang/String" "value" "[B") (.int (Int32.ofNat j))) (.int ((zsE 17).2.2.2.getD j 0))) := by decide +kernel
theorem zfa18 : zFl[311]? = some (Cond.exactly (zTm 18) "java/lang/String") := by decide +kernel
theorem zfb18 : zFl[312]? = some (Cond.eq (.field (zTm 18) "java/lang/String" "coder" "B") (.int 0)) := by decide +kernel
theorem zfc18 : zFl[313]? = some (Cond.arrayOf (.field (zTm 18) "java/lang/String" "value" "[B") .byte) := by decide +kernel
theorem zfd18 : zFl[314]? = some (Cond.eq (.length (.field (zTm 18) "java/lang/String" "value" "[B")) (.int (Int32.ofNat (zsN 18)))) := by decide +kernel
theorem zfe18 : ∀ j, j < zsN 18 → zFl[315 + j]? = some (Cond.eq (.elem (.field (zTm 18) "java/lang/String" "value" "[B") (.int (Int32.ofNat j))) (.int ((zsE 18).2.2.2.getD j 0))) := by decide +kernel
theorem zfa19 : zFl[320]? = some (Cond.exactly (zTm 19) "java/lang/String") := by decide +kernel
theorem zfb19 : zFl[321]? = some (Cond.eq (.field (zTm 19) "java/lang/String" "coder" "B") (.int 0)) := by decide +kernel
theorem zfc19 : zFl[322]? = some (Cond.arrayOf (.field (zTm 19) "java/lang/String" "value" "[B") .byte) := by decide +kernel
theorem zfd19 : zFl[323]? = some (Cond.eq (.length (.field (zTm 19) "java/lang/String" "value" "[B")) (.int (Int32.ofNat (zsN 19)))) := by decide +kernel
theorem zfe19 : ∀ j, j < zsN 19 → zFl[324 + j]? = some (Cond.eq (.elem (.field (zTm 19) "java/lang/String" "value" "[B") (.int (Int32.ofNat j))) (.int ((zsE 19).2.2.2.getD j 0))) := by decide +kernel
theorem zfa20 : zFl[328]? = some (Cond.exactly (zTm 20) "java/lang/String") := by decide +kernel
theorem zfb20 : zFl[329]? = some (Cond.eq (.field (zTm 20) "java/lang/String" "coder" "B") (.int 0)) := by decide +kernel
theorem zfc20 : zFl[330]? = some (Cond.arrayOf (.field (zTm 20) "java/lang/String" "value" "[B") .byte) := by decide +kernel
theorem zfd20 : zFl[331]? = some (Cond.eq (.length (.field (zTm 20) "java/lang/String" "value" "[B")) (.int (Int32.ofNat (zsN 20)))) := by decide +kernel
theorem zfe20 : ∀ j, j < zsN 20 → zFl[332 + j]? = some (Cond.eq (.elem (.field (zTm 20) "java/lang/String" "value" "[B") (.int (Int32.ofNat j))) (.int ((zsE 20).2.2.2.getD j 0))) := by decide +kernel
theorem zfa21 : zFl[338]? = some (Cond.exactly (zTm 21) "java/lang/String") := by decide +kernel
theorem zfb21 : zFl[339]? = some (Cond.eq (.field (zTm 21) "java/lang/String" "coder" "B") (.int 0)) := by decide +kernel
theorem zfc21 : zFl[340]? = some (Cond.arrayOf (.field (zTm 21) "java/lang/String" "value" "[B") .byte) := by decide +kernel
theorem zfd21 : zFl[341]? = some (Cond.eq (.length (.field (zTm 21) "java/lang/String" "value" "[B")) (.int (Int32.ofNat (zsN 21)))) := by decide +kernel
theorem zfe21 : ∀ j, j < zsN 21 → zFl[342 + j]? = some (Cond.eq (.elem (.field (zTm 21) "java/lang/String" "value" "[B") (.int (Int32.ofNat j))) (.int ((zsE 21).2.2.2.getD j 0))) := by decide +kernel
theorem zfa22 : zFl[347]? = some (Cond.exactly (zTm 22) "java/lang/String") := by decide +kernel
theorem zfb22 : zFl[348]? = some (Cond.eq (.field (zTm 22) "java/lang/String" "coder" "B") (.int 0)) := by decide +kernel
theorem zfc22 : zFl[349]? = some (Cond.arrayOf (.field (zTm 22) "java/lang/String" "value" "[B") .byte) := by decide +kernel
theorem zfd22 : zFl[350]? = some (Cond.eq (.length (.field (zTm 22) "java/lang/String" "value" "[B")) (.int (Int32.ofNat (zsN 22)))) := by decide +kernel
theorem zfe22 : ∀ j, j < zsN 22 → zFl[351 + j]? = some (Cond.eq (.elem (.field (zTm 22) "java/lang/String" "value" "[B") (.int (Int32.ofNat j))) (.int ((zsE 22).2.2.2.getD j 0))) := by decide +kernel
theorem zfa23 : zFl[355]? = some (Cond.exactly (zTm 23) "java/lang/String") := by decide +kernel
theorem zfb23 : zFl[356]? = some (Cond.eq (.field (zTm 23) "java/lang/String" "coder" "B") (.int 0)) := by decide +kernel
theorem zfc23 : zFl[357]? = some (Cond.arrayOf (.field (zTm 23) "java/lang/String" "value" "[B") .byte) := by decide +kernel
theorem zfd23 : zFl[358]? = some (Cond.eq (.length (.field (zTm 23) "java/lang/String" "value" "[B")) (.int (Int32.ofNat (zsN 23)))) := by decide +kernel
theorem zfe23 : ∀ j, j < zsN 23 → zFl[359 + j]? = some (Cond.eq (.elem (.field (zTm 23) "java/lang/String" "value" "[B") (.int (Int32.ofNat j))) (.int ((zsE 23).2.2.2.getD j 0))) := by decide +kernel
theorem zfa24 : zFl[364]? = some (Cond.exactly (zTm 24) "java/lang/String") := by decide +kernel
theorem zfb24 : zFl[365]? = some (Cond.eq (.field (zTm 24) "java/lang/String" "coder" "B") (.int 0)) := by decide +kernel
theorem zfc24 : zFl[366]? = some (Cond.arrayOf (.field (zTm 24) "java/lang/String" "value" "[B") .byte) := by decide +kernel
theorem zfd24 : zFl[367]? = some (Cond.eq (.length (.field (zTm 24) "java/lang/String" "value" "[B")) (.int (Int32.ofNat (zsN 24)))) := by decide +kernel
theorem zfe24 : ∀ j, j < zsN 24 → zFl[368 + j]? = some (Cond.eq (.elem (.field (zTm 24) "java/lang/String" "value" "[B") (.int (Int32.ofNat j))) (.int ((zsE 24).2.2.2.getD j 0))) := by decide +kernel
theorem zfa25 : zFl[373]? = some (Cond.exactly (zTm 25) "java/lang/String") := by decide +kernel
theorem zfb25 : zFl[374]? = some (Cond.eq (.field (zTm 25) "java/lang/String" "coder" "B") (.int 0)) := by decide +kernel
theorem zfc25 : zFl[375]? = some (Cond.arrayOf (.field (zTm 25) "java/lang/String" "value" "[B") .byte) := by decide +kernel
theorem zfd25 : zFl[376]? = some (Cond.eq (.length (.field (zTm 25) "java/lang/String" "value" "[B")) (.int (Int32.ofNat (zsN 25)))) := by decide +kernel
theorem zfe25 : ∀ j, j < zsN 25 → zFl[377 + j]? = some (Cond.eq (.elem (.field (zTm 25) "java/lang/String" "value" "[B") (.int (Int32.ofNat j))) (.int ((zsE 25).2.2.2.getD j 0))) := by decide +kernel
theorem zfa26 : zFl[382]? = some (Cond.exactly (zTm 26) "java/lang/String") := by decide +kernel
theorem zfb26 : zFl[383]? = some (Cond.eq (.field (zTm 26) "java/lang/String" "coder" "B") (.int 0)) := by decide +kernel
theorem zfc26 : zFl[384]? = some (Cond.arrayOf (.field (zTm 26) "java/lang/String" "value" "[B") .byte) := by decide +kernel
theorem zfd26 : zFl[385]? = some (Cond.eq (.length (.field (zTm 26) "java/lang/String" "value" "[B")) (.int (Int32.ofNat (zsN 26)))) := by decide +kernel
theorem zfe26 : ∀ j, j < zsN 26 → zFl[386 + j]? = some (Cond.eq (.elem (.field (zTm 26) "java/lang/String" "value" "[B") (.int (Int32.ofNat j))) (.int ((zsE 26).2.2.2.getD j 0))) := by decide +kernel
theorem zfs1 : ∀ i, i < 27 → Cond.exactly (zTm i) "java/lang/String" ∈ zFl := by
  intro i hi
  match i, hi with
  | 0, _ => exact List.mem_of_getElem? zfa0
  | 1, _ => exact List.mem_of_getElem? zfa1
  | 2, _ => exact List.mem_of_getElem? zfa2
  | 3, _ => exact List.mem_of_getElem? zfa3
  | 4, _ => exact List.mem_of_getElem? zfa4
  | 5, _ => exact List.mem_of_getElem? zfa5
  | 6, _ => exact List.mem_of_getElem? zfa6
  | 7, _ => exact List.mem_of_getElem? zfa7
  | 8, _ => exact List.mem_of_getElem? zfa8
  | 9, _ => exact List.mem_of_getElem? zfa9
  | 10, _ => exact List.mem_of_getElem? zfa10
  | 11, _ => exact List.mem_of_getElem? zfa11
  | 12, _ => exact List.mem_of_getElem? zfa12
  | 13, _ => exact List.mem_of_getElem? zfa13
  | 14, _ => exact List.mem_of_getElem? zfa14
  | 15, _ => exact List.mem_of_getElem? zfa15
  | 16, _ => exact List.mem_of_getElem? zfa16
  | 17, _ => exact List.mem_of_getElem? zfa17
  | 18, _ => exact List.mem_of_getElem? zfa18
  | 19, _ => exact List.mem_of_getElem? zfa19
  | 20, _ => exact List.mem_of_getElem? zfa20
  | 21, _ => exact List.mem_of_getElem? zfa21
  | 22, _ => exact List.mem_of_getElem? zfa22
  | 23, _ => exact List.mem_of_getElem? zfa23
  | 24, _ => exact List.mem_of_getElem? zfa24
  | 25, _ => exact List.mem_of_getElem? zfa25
  | 26, _ => exact List.mem_of_getElem? zfa26
  | i + 27, hi => exact absurd hi (by omega)
theorem zfs2 : ∀ i, i < 27 → Cond.eq (.field (zTm i) "java/lang/String" "coder" "B") (.int 0) ∈ zFl := by
  intro i hi
  match i, hi with
  | 0, _ => exact List.mem_of_getElem? zfb0
  | 1, _ => exact List.mem_of_getElem? zfb1
  | 2, _ => exact List.mem_of_getElem? zfb2
  | 3, _ => exact List.mem_of_getElem? zfb3
  | 4, _ => exact List.mem_of_getElem? zfb4
  | 5, _ => exact List.mem_of_getElem? zfb5
  | 6, _ => exact List.mem_of_getElem? zfb6
  | 7, _ => exact List.mem_of_getElem? zfb7
  | 8, _ => exact List.mem_of_getElem? zfb8
  | 9, _ => exact List.mem_of_getElem? zfb9
  | 10, _ => exact List.mem_of_getElem? zfb10
  | 11, _ => exact List.mem_of_getElem? zfb11
  | 12, _ => exact List.mem_of_getElem? zfb12
  | 13, _ => exact List.mem_of_getElem? zfb13
  | 14, _ => exact List.mem_of_getElem? zfb14
  | 15, _ => exact List.mem_of_getElem? zfb15
  | 16, _ => exact List.mem_of_getElem? zfb16
  | 17, _ => exact List.mem_of_getElem? zfb17
  | 18, _ => exact List.mem_of_getElem? zfb18
  | 19, _ => exact List.mem_of_getElem? zfb19
  | 20, _ => exact List.mem_of_getElem? zfb20
  | 21, _ => exact List.mem_of_getElem? zfb21
  | 22, _ => exact List.mem_of_getElem? zfb22
  | 23, _ => exact List.mem_of_getElem? zfb23
  | 24, _ => exact List.mem_of_getElem? zfb24
  | 25, _ => exact List.mem_of_getElem? zfb25
  | 26, _ => exact List.mem_of_getElem? zfb26
  | i + 27, hi => exact absurd hi (by omega)
theorem zfs3 : ∀ i, i < 27 → Cond.arrayOf (.field (zTm i) "java/lang/String" "value" "[B") .byte ∈ zFl := by
  intro i hi
  match i, hi with
  | 0, _ => exact List.mem_of_getElem? zfc0
  | 1, _ => exact List.mem_of_getElem? zfc1
  | 2, _ => exact List.mem_of_getElem? zfc2
  | 3, _ => exact List.mem_of_getElem? zfc3
  | 4, _ => exact List.mem_of_getElem? zfc4
  | 5, _ => exact List.mem_of_getElem? zfc5
  | 6, _ => exact List.mem_of_getElem? zfc6
  | 7, _ => exact List.mem_of_getElem? zfc7
  | 8, _ => exact List.mem_of_getElem? zfc8
  | 9, _ => exact List.mem_of_getElem? zfc9
  | 10, _ => exact List.mem_of_getElem? zfc10
  | 11, _ => exact List.mem_of_getElem? zfc11
  | 12, _ => exact List.mem_of_getElem? zfc12
  | 13, _ => exact List.mem_of_getElem? zfc13
  | 14, _ => exact List.mem_of_getElem? zfc14
  | 15, _ => exact List.mem_of_getElem? zfc15
  | 16, _ => exact List.mem_of_getElem? zfc16
  | 17, _ => exact List.mem_of_getElem? zfc17
  | 18, _ => exact List.mem_of_getElem? zfc18
  | 19, _ => exact List.mem_of_getElem? zfc19
  | 20, _ => exact List.mem_of_getElem? zfc20
  | 21, _ => exact List.mem_of_getElem? zfc21
  | 22, _ => exact List.mem_of_getElem? zfc22
  | 23, _ => exact List.mem_of_getElem? zfc23
  | 24, _ => exact List.mem_of_getElem? zfc24
  | 25, _ => exact List.mem_of_getElem? zfc25
  | 26, _ => exact List.mem_of_getElem? zfc26
  | i + 27, hi => exact absurd hi (by omega)
theorem zfs4 : ∀ i, i < 27 → Cond.eq (.length (.field (zTm i) "java/lang/String" "value" "[B")) (.int (Int32.ofNat (zsN i))) ∈ zFl := by
  intro i hi
  match i, hi with
  | 0, _ => exact List.mem_of_getElem? zfd0
  | 1, _ => exact List.mem_of_getElem? zfd1
  | 2, _ => exact List.mem_of_getElem? zfd2
  | 3, _ => exact List.mem_of_getElem? zfd3
  | 4, _ => exact List.mem_of_getElem? zfd4
  | 5, _ => exact List.mem_of_getElem? zfd5
  | 6, _ => exact List.mem_of_getElem? zfd6
  | 7, _ => exact List.mem_of_getElem? zfd7
  | 8, _ => exact List.mem_of_getElem? zfd8
  | 9, _ => exact List.mem_of_getElem? zfd9
  | 10, _ => exact List.mem_of_getElem? zfd10
  | 11, _ => exact List.mem_of_getElem? zfd11
  | 12, _ => exact List.mem_of_getElem? zfd12
  | 13, _ => exact List.mem_of_getElem? zfd13
  | 14, _ => exact List.mem_of_getElem? zfd14
  | 15, _ => exact List.mem_of_getElem? zfd15
  | 16, _ => exact List.mem_of_getElem? zfd16
  | 17, _ => exact List.mem_of_getElem? zfd17
  | 18, _ => exact List.mem_of_getElem? zfd18
  | 19, _ => exact List.mem_of_getElem? zfd19
  | 20, _ => exact List.mem_of_getElem? zfd20
  | 21, _ => exact List.mem_of_getElem? zfd21
  | 22, _ => exact List.mem_of_getElem? zfd22
  | 23, _ => exact List.mem_of_getElem? zfd23
  | 24, _ => exact List.mem_of_getElem? zfd24
  | 25, _ => exact List.mem_of_getElem? zfd25
  | 26, _ => exact List.mem_of_getElem? zfd26
  | i + 27, hi => exact absurd hi (by omega)
theorem zfs5 : ∀ i, i < 27 → ∀ j, j < zsN i → Cond.eq (.elem (.field (zTm i) "java/lang/String" "value" "[B") (.int (Int32.ofNat j))) (.int ((zsE i).2.2.2.getD j 0)) ∈ zFl := by
  intro i hi
  match i, hi with
  | 0, _ => exact fun j hj => List.mem_of_getElem? (zfe0 j hj)
  | 1, _ => exact fun j hj => List.mem_of_getElem? (zfe1 j hj)
  | 2, _ => exact fun j hj => List.mem_of_getElem? (zfe2 j hj)
  | 3, _ => exact fun j hj => List.mem_of_getElem? (zfe3 j hj)
  | 4, _ => exact fun j hj => List.mem_of_getElem? (zfe4 j hj)
  | 5, _ => exact fun j hj => List.mem_of_getElem? (zfe5 j hj)
  | 6, _ => exact fun j hj => List.mem_of_getElem? (zfe6 j hj)
  | 7, _ => exact fun j hj => List.mem_of_getElem? (zfe7 j hj)
  | 8, _ => exact fun j hj => List.mem_of_getElem? (zfe8 j hj)
  | 9, _ => exact fun j hj => List.mem_of_getElem? (zfe9 j hj)
  | 10, _ => exact fun j hj => List.mem_of_getElem? (zfe10 j hj)
  | 11, _ => exact fun j hj => List.mem_of_getElem? (zfe11 j hj)
  | 12, _ => exact fun j hj => List.mem_of_getElem? (zfe12 j hj)
  | 13, _ => exact fun j hj => List.mem_of_getElem? (zfe13 j hj)
  | 14, _ => exact fun j hj => List.mem_of_getElem? (zfe14 j hj)
  | 15, _ => exact fun j hj => List.mem_of_getElem? (zfe15 j hj)
  | 16, _ => exact fun j hj => List.mem_of_getElem? (zfe16 j hj)
  | 17, _ => exact fun j hj => List.mem_of_getElem? (zfe17 j hj)
  | 18, _ => exact fun j hj => List.mem_of_getElem? (zfe18 j hj)
  | 19, _ => exact fun j hj => List.mem_of_getElem? (zfe19 j hj)
  | 20, _ => exact fun j hj => List.mem_of_getElem? (zfe20 j hj)
  | 21, _ => exact fun j hj => List.mem_of_getElem? (zfe21 j hj)
  | 22, _ => exact fun j hj => List.mem_of_getElem? (zfe22 j hj)
  | 23, _ => exact fun j hj => List.mem_of_getElem? (zfe23 j hj)
  | 24, _ => exact fun j hj => List.mem_of_getElem? (zfe24 j hj)
  | 25, _ => exact fun j hj => List.mem_of_getElem? (zfe25 j hj)
  | 26, _ => exact fun j hj => List.mem_of_getElem? (zfe26 j hj)
  | i + 27, hi => exact absurd hi (by omega)
theorem zfs6 : Cond.eq (.static "java/lang/String" "COMPACT_STRINGS" "Z") (.int 1) ∈ zFl := by decide +kernel
theorem zfs7 : Cond.isRef (.static "jdk/internal/util/Preconditions" "SIOOBE_FORMATTER" "Ljava/util/function/BiFunction;") ∈ zFl := by decide +kernel
theorem zfs8 : ∀ i, i < 27 → Cond.stringRef (zsE i).1 (zsE i).2.1 (zsE i).2.2.1 ∈ lw_tbl := by decide +kernel
theorem zhr {s : State} {pl : Platform} {r r' : Room} (hf : r.frames ≤ r'.frames) (hl : r.locals ≤ r'.locals) (hc : r.cells ≤ r'.cells) (hs : r.slots ≤ r'.slots) (h : s.hasRoom pl r' = true) : s.hasRoom pl r = true := by
  simp only [State.hasRoom, Bool.and_eq_true, decide_eq_true_eq] at h ⊢
  obtain ⟨⟨⟨⟨y, a, b, c, d, e⟩, f⟩, g⟩, i⟩ := h
  exact ⟨⟨⟨⟨by omega, by omega, by omega, by omega, by omega, e⟩, by omega⟩, by omega⟩, i⟩
theorem zstr {args : Array Value} {s : State} {A : Nat → Prop} (hs : ∀ c ∈ zFl, c.before args s = true) (hA : ∀ a : Nat, a < s.heap.size → ¬ A a) :
    ∃ ad : Nat → Nat × Nat, ∀ i : Nat, i < 27 → (zTm i).eval args s none [] s = some (.ref (ad i).1) ∧ va_O "java/lang/String" (ad i).1 A s s.heap ∧ va_OF "java/lang/String" "coder" "B" (.int 0) (ad i).1 A s s.heap ∧ va_OF "java/lang/String" "value" "[B" (.ref (ad i).2) (ad i).1 A s s.heap ∧ va_T .byte (ad i).2 (zsN i) (fun j => .int ((zsE i).2.2.2.getD j 0)) A s s.heap := by
  have h0 : ∀ i : Nat, ∃ q : Nat × Nat, i < 27 → (zTm i).eval args s none [] s = some (.ref q.1) ∧ va_O "java/lang/String" q.1 A s s.heap ∧ va_OF "java/lang/String" "coder" "B" (.int 0) q.1 A s s.heap ∧ va_OF "java/lang/String" "value" "[B" (.ref q.2) q.1 A s s.heap ∧ va_T .byte q.2 (zsN i) (fun j => .int ((zsE i).2.2.2.getD j 0)) A s s.heap := by
    intro i
    by_cases hi : i < 27
    · obtain ⟨a, c, cA, kA, q1, q2, q3, q4, q5, q6, -⟩ := Cond.exactly_spec (args := args) (first := s) (o := none) (s := s) (idx := []) (t := zTm i) (cls := "java/lang/String") (hs _ (zfs1 i hi))
      obtain ⟨t, ht, hT⟩ := va_Tof (f := fun j => .int ((zsE i).2.2.2.getD j 0)) (A := A) (N := zsN i) (by have := zsN_lt i hi; omega) (hs _ (zfs3 i hi)) (va_eqt (hs _ (zfs4 i hi))) (fun j hj => va_eqt (hs _ (zfs5 i hi j hj))) hA
      exact ⟨(a, t), fun _ => ⟨q1, ⟨cA, q3, q5, by rw [q6]; exact q2, hA a (Array.getElem?_eq_some_iff.mp q3).1⟩, vk_OFof q1 (va_eqt (hs _ (zfs2 i hi))) hA, vk_OFof q1 ht hA, hT⟩⟩
    · exact ⟨(0, 0), fun h => absurd h hi⟩
  obtain ⟨ad, had⟩ := Classical.axiomOfChoice h0
  exact ⟨ad, had⟩
set_option maxHeartbeats 4000000 in
set_option maxRecDepth 100000 in
theorem law_all (I : zT → zS → Prop) (hO : oAll I) {g : zG} {nm : String} (hL : g.2.2.2.2.2.1 ≤ 3072) : ∃ (T' : zT) (S' : zS), T'.1 = 230 ∧ T'.2.1 = TT462.2.1 ∧ zg g 1312 (mL nm) TT0 0 [some (.ref 10001), none, none, none] [] TT0 SS0 (some (.int 1)) T' S' := by
  obtain ⟨hw, ⟨r, hc, hI⟩, o0, o1, o2, o3, o4, o5, o6, o7, o8, o9, o10, o11, o12, o13, o14, o15, o16, o17, o18, o19, o20, o21, o22, o23, o24, o25, o26, o27, o28, o29, o30, o31, o32, o33⟩ := hO
  obtain ⟨T', S', hI', hz⟩ := law_loop_open (g := g) (nm := nm) (T0 := TT0) I hL hw o0 o1 o2 o3 o4 o5 o6 o7 o8 o9 o10 o11 o12 o13 o14 o15 o16 o17 o18 o19 o20 o21 o22 o23 o24 o25 o26 o27 o28 o29 o30 o31 o32 o33 4000 0 TT462 r.2 (by omega) (by omega) hI
  rw [nI_0] at hz
  have hw1 := (hw _ _ hI').2.2.1
  have hw2 := (hw _ _ hI').2.2.2
  refine ⟨T', S', hw1, hw2, ?_⟩
  refine z_new zcX11 zdfX11 zwL_7 zvX11 zjX11 (by decide +kernel) (by rw [hw1]; decide +kernel) (by rw [hw2]; decide +kernel) dL_law_0 ?_
  refine z_tT (X := TT1) rfl ?_
  refine z_tS (X := SS1) rfl ?_
  refine z_tr (b := 0) (by decide +kernel) ?_
  refine z_dup dL_law_3 rfl ?_
  refine z_callI (ci := 11) (As := []) rfl rfl zkL_9 ziX11_init ⟨by decide +kernel, by decide +kernel⟩ ck54 rfl rfl (Nat.le_of_ble_eq_true rfl) (by decide) ⟨(by decide +kernel), (by decide +kernel)⟩ ⟨(by rw [hw1]; decide +kernel), (by rw [hw2]; decide +kernel)⟩ dL_law_4 ?_
  refine z_astore_n dL_law_7 rfl (by show 1 < 4; decide) rfl ?_
  refine z_new zcX12 zdfX12 zwL_10 zvX12 zjX12 (by decide +kernel) (by rw [hw1]; decide +kernel) (by rw [hw2]; decide +kernel) dL_law_8 ?_
  refine z_tT (X := TT378) rfl ?_
  refine z_tS (X := SS194) rfl ?_
  refine z_tr (b := 187) (by decide +kernel) ?_
  refine z_dup dL_law_11 rfl ?_
  refine z_callI (ci := 12) (As := []) rfl rfl zkL_12 ziX12_init ⟨by decide +kernel, by decide +kernel⟩ (ck55 r hc) rfl rfl (Nat.le_of_ble_eq_true rfl) (by decide) ⟨(by decide +kernel), (by decide +kernel)⟩ ⟨(by rw [hw1]; decide +kernel), (by rw [hw2]; decide +kernel)⟩ dL_law_12 ?_
  refine z_astore_n dL_law_15 rfl (by show 2 < 4; decide) rfl ?_
  refine z_iconst (r := 0) dL_law_16 (by decide) ?_
  refine z_istore_n dL_law_17 rfl (by show 3 < 4; decide) rfl ?_
  exact hz
set_option maxHeartbeats 4000000 in
set_option maxRecDepth 100000 in
theorem whole_start_open (I : zT → zS → Prop) (hO : oAll I) {p : Program} {e : Env} {s : State} {m : MethodId} {below : List Frame} {meth : Method} {c : Code} (l : Launch) {b L : Nat} {xs : Nat → Int32} (hL : L ≤ 3072) (C0 : lw_At p s m meth c b L xs) : W p l e room_1 s m #[Value.ref b] below meth c s.heap [] 0 0 (lw_Z below #[Value.ref b] s) (entryFrame m ([Value.ref b] : List Value).toArray 4) := by
  obtain ⟨hx, hb, hr, hml, hown, hts, hX, hbl, hlocks, hgv⟩ := C0
  have hs : ∀ c ∈ zFl, c.before #[Value.ref b] s = true := flat_of_before _ hgv
  have htz : ∀ w ∈ zTb, w.before #[Value.ref b] s = true := fun w h => hts w (List.mem_filter.mp h).1
  obtain ⟨c0, iS0, hKn0⟩ := u_known (C := RX0) (T := TX0) (N := 15) (n := 15) htz zcX0.2.1 (htz _ zvX0)
  obtain ⟨c1, iS1, hKn1⟩ := u_known (C := RX1) (T := TX1) (N := 4) (n := 4) htz zcX1.2.1 (htz _ zvX1)
  obtain ⟨c2, iS2, hKn2⟩ := u_known (C := RX2) (T := TX2) (N := 3) (n := 3) htz zcX2.2.1 (htz _ zvX2)
  obtain ⟨c3, iS3, hKn3⟩ := u_known (C := RX3) (T := TX3) (N := 1) (n := 1) htz zcX3.2.1 (htz _ zvX3)
  obtain ⟨c4, iS4, hKn4⟩ := u_known (C := RX4) (T := TX4) (N := 17) (n := 17) htz zcX4.2.1 (htz _ zvX4)
  obtain ⟨c5, iS5, hKn5⟩ := u_known (C := RX5) (T := TX5) (N := 15) (n := 15) htz zcX5.2.1 (htz _ zvX5)
  obtain ⟨c6, iS6, hKn6⟩ := u_known (C := RX6) (T := TX6) (N := 10) (n := 10) htz zcX6.2.1 (htz _ zvX6)
  obtain ⟨c7, iS7, hKn7⟩ := u_known (C := RX7) (T := TX7) (N := 4) (n := 4) htz zcX7.2.1 (htz _ zvX7)
  obtain ⟨c8, iS8, hKn8⟩ := u_known (C := RX8) (T := TX8) (N := 5) (n := 5) htz zcX8.2.1 (htz _ zvX8)
  obtain ⟨c9, iS9, hKn9⟩ := u_known (C := RX9) (T := TX9) (N := 2) (n := 2) htz zcX9.2.1 (htz _ zvX9)
  obtain ⟨c10, iS10, hKn10⟩ := u_known (C := RX10) (T := TX10) (N := 4) (n := 4) htz zcX10.2.1 (htz _ zvX10)
  obtain ⟨c11, iS11, hKn11⟩ := u_known (C := RX11) (T := TX11) (N := 16) (n := 16) htz zcX11.2.1 (htz _ zvX11)
  obtain ⟨c12, iS12, hKn12⟩ := u_known (C := RX12) (T := TX12) (N := 68) (n := 68) htz zcX12.2.1 (htz _ zvX12)
  obtain ⟨dC, dI, hKc⟩ : ∃ (dC : Nat → ClassId) (dI : Nat → Nat → Nat), ∀ (k : Nat) (q : vw_C), vwCl[k]? = some q → u_Kn s q.1 q.2.1 q.2.2 (dC k) (dI k) := by
    refine ⟨fun k => [c0, c1, c2, c3, c4, c5, c6, c7, c8, c9, c10, c11, c12].getD k c0, fun k => [iS0, iS1, iS2, iS3, iS4, iS5, iS6, iS7, iS8, iS9, iS10, iS11, iS12].getD k iS0, ?_⟩
    intro k q hq
    match k, hq with
    | 0, hq => cases hq; exact hKn0
    | 1, hq => cases hq; exact hKn1
    | 2, hq => cases hq; exact hKn2
    | 3, hq => cases hq; exact hKn3
    | 4, hq => cases hq; exact hKn4
    | 5, hq => cases hq; exact hKn5
    | 6, hq => cases hq; exact hKn6
    | 7, hq => cases hq; exact hKn7
    | 8, hq => cases hq; exact hKn8
    | 9, hq => cases hq; exact hKn9
    | 10, hq => cases hq; exact hKn10
    | 11, hq => cases hq; exact hKn11
    | 12, hq => cases hq; exact hKn12
    | k + 13, hq => simp [vwCl] at hq
  obtain ⟨a0, k0, p0, e0, f0, g0⟩ := Cond.arrayClass_spec (htz _ zac_int)
  obtain ⟨a1, k1, p1, e1, f1, g1⟩ := Cond.arrayClass_spec (htz _ zac_long)
  obtain ⟨a2, k2, p2, e2, f2, g2⟩ := Cond.arrayClass_spec (htz _ zac_boolean)
  obtain ⟨a3, k3, p3, e3, f3, g3⟩ := Cond.arrayClass_spec (htz _ zac_byte)
  obtain ⟨p4, a4, k4, e4, x4, f4, g4, y4⟩ := Cond.arrayOver_spec (hts _ zaoX8)
  obtain ⟨p5, a5, k5, e5, x5, f5, g5, y5⟩ := Cond.arrayOver_spec (hts _ zaoX0)
  obtain ⟨p6, a6, k6, e6, x6, f6, g6, y6⟩ := Cond.arrayOver_spec (hts _ zaoX7)
  have hA0 : ∀ a : Nat, a < s.heap.size → ¬ (s.heap.size ≤ a) := fun a h => Nat.not_le.mpr h
  obtain ⟨ad, had⟩ := zstr (A := fun q => s.heap.size ≤ q) hs hA0
  have hz1 : va_Z "java/lang/String" "COMPACT_STRINGS" "Z" (.int 1) (fun q => s.heap.size ≤ q) s s.heap := va_Zof (hts _ zls1) (hts _ zin1) (va_eqt (hs _ zfs6)) hA0
  have hz2 : va_Zq "jdk/internal/util/Preconditions" "SIOOBE_FORMATTER" "Ljava/util/function/BiFunction;" (fun q => s.heap.size ≤ q) s s.heap := va_Zqof (hts _ zls2) (hts _ zin2) (hs _ zfs7) hA0
  obtain ⟨t0, ht0⟩ : ∃ t0 : Nat, va_Z "jdk/internal/util/Preconditions" "SIOOBE_FORMATTER" "Ljava/util/function/BiFunction;" .null (fun q => s.heap.size ≤ q) s s.heap ∨ va_Z "jdk/internal/util/Preconditions" "SIOOBE_FORMATTER" "Ljava/util/function/BiFunction;" (.ref t0) (fun q => s.heap.size ≤ q) s s.heap := by
    rcases hz2 with h | ⟨t, h⟩
    · exact ⟨0, Or.inl h⟩
    · exact ⟨t, Or.inr h⟩
  obtain ⟨xa, xa0, xa1, xa2, xa3⟩ : ∃ xa : Nat → Nat, xa 0 = b ∧ (∀ i, i < 27 → xa (i + 1) = (ad i).1) ∧ (∀ i, i < 27 → xa (i + 10000) = (ad i).2) ∧ xa 30000 = t0 := by
    refine ⟨fun k => if k = 0 then b else if k = 30000 then t0 else if k < 10000 then (ad (k - 1)).1 else (ad (k - 10000)).2, if_pos rfl, fun i hi => ?_, fun i hi => ?_, ?_⟩
    · show (if i + 1 = 0 then b else if i + 1 = 30000 then t0 else if i + 1 < 10000 then (ad (i + 1 - 1)).1 else (ad (i + 1 - 10000)).2) = _
      rw [if_neg (by omega), if_neg (by omega), if_pos (by omega), Nat.add_sub_cancel]
    · show (if i + 10000 = 0 then b else if i + 10000 = 30000 then t0 else if i + 10000 < 10000 then (ad (i + 10000 - 1)).1 else (ad (i + 10000 - 10000)).2) = _
      rw [if_neg (by omega), if_neg (by omega), if_neg (by omega), Nat.add_sub_cancel]
    · show (if 30000 = 0 then b else if 30000 = 30000 then t0 else if 30000 < 10000 then (ad (30000 - 1)).1 else (ad (30000 - 10000)).2) = _
      rw [if_neg (by decide), if_pos rfl]
  obtain ⟨ta, hta⟩ : ∃ ta : Nat → ClassId, ta = fun k => [a0, a1, a2, a3, a4, a5, a6].getD k a0 := ⟨_, rfl⟩
  obtain ⟨g, hg⟩ : ∃ g : zG, g = ((dC, dI), ta, s.heap.size, xa, fun _ => 0, L, xs) := ⟨_, rfl⟩
  have hgA : zA g = fun q => s.heap.size ≤ q := by rw [hg]; rfl
  have hK : va_K g.1 vwCl (zty g) s := by
    rw [hg, hta]
    refine ⟨hKc, fun k q hq => ?_⟩
    match k, hq with
    | 0, hq => cases hq; exact ⟨fun n z => ⟨fun _ h => (by cases h), k0, f0, p0, g0⟩, e0⟩
    | 1, hq => cases hq; exact ⟨fun n z => ⟨fun _ h => (by cases h), k1, f1, p1, g1⟩, e1⟩
    | 2, hq => cases hq; exact ⟨fun n z => ⟨fun _ h => (by cases h), k2, f2, p2, g2⟩, e2⟩
    | 3, hq => cases hq; exact ⟨fun n z => ⟨fun _ h => (by cases h), k3, f3, p3, g3⟩, e3⟩
    | 4, hq => cases hq; exact ⟨fun n z => ⟨fun _ h => (by cases h), k4, f4, p4, g4⟩, k4, p4, f4, g4, e4, y4⟩
    | 5, hq => cases hq; exact ⟨fun n z => ⟨fun _ h => (by cases h), k5, f5, p5, g5⟩, k5, p5, f5, g5, e5, y5⟩
    | 6, hq => cases hq; exact ⟨fun n z => ⟨fun _ h => (by cases h), k6, f6, p6, g6⟩, k6, p6, f6, g6, e6, y6⟩
    | k + 7, hq => simp [zty] at hq
  have hZX : zX g s s.heap := by
    have g4 : g.2.2.2.1 = xa := by rw [hg]
    have g3 : g.2.2.1 = s.heap.size := by rw [hg]
    refine ⟨by rw [g4, xa0]; rw [hg]; exact hX, by rw [g4, g3, xa0]; exact hbl, ⟨fun i q hq => ?_, by rw [hgA]; exact hz1, ?_⟩, va_AO.of (hts _ zaoX8), va_AO.of (hts _ zaoX0), va_AO.of (hts _ zaoX7)⟩
    · have hi : i < 27 := by
        have hl : zSt.length = 27 := by decide +kernel
        rw [← hl]
        exact (List.getElem?_eq_some_iff.mp hq).1
      have hqe : q = zsE i := Option.some.inj (hq.symm.trans (zsE_at hi))
      subst hqe
      obtain ⟨w1, w2, w3, w4, w5⟩ := had i hi
      unfold zXs
      rw [g4, hgA, xa1 i hi, xa2 i hi]
      exact ⟨w2, w3, w4, w5, vk_R.of (A := #[Value.ref b]) (hts _ (zfs8 i hi)) w1⟩
    · rw [hgA]
      rcases ht0 with h | h
      · refine ⟨10000, ?_⟩
        have : zv g (.ref 10000) = .null := rfl
        rw [this]
        exact h
      · refine ⟨10001 + 30000, ?_⟩
        rw [zv_gt, g4, xa3]
        exact h
  have hgL : g.2.2.2.2.2.1 ≤ 3072 := by rw [hg]; exact hL
  have hgb : g.2.2.1 = s.heap.size := by rw [hg]
  have hCx : zCx g (mL meth.name) p s m #[Value.ref b] meth c := ⟨hx, hb, hr, hml, hown, htz, hlocks, rfl, hK, hZX, by rw [hgb]; exact Nat.le_refl _⟩
  obtain ⟨T', S', hw1, hw2, hz⟩ := law_all I hO (g := g) (nm := meth.name) hgL
  have hl := lv_entry ([.ref b]) (n := 4) (Nat.le_of_ble_eq_true rfl)
  rw [lg_entry_eq]
  generalize (lg_sl ([.ref b]) ++ List.replicate (4 - (lg_sl ([.ref b])).length) Slot.unset).toArray = la at hl ⊢
  have hl' : lv_has la 4 (zas g 0 [some (.ref 10001), none, none, none]) := by
    have ev : zv g (.ref (10001 + 0)) = .ref b := by
      rw [zv_gt]
      rw [show g.2.2.2.1 0 = b by rw [hg]; exact xa0]
    have ez : zas g 0 [some (.ref 10001), none, none, none] = [(0, zv g (.ref (10001 + 0)))] := rfl
    rw [ez, ev]
    exact hl
  have hAt : zAt g TT0 SS0 s.heap := ⟨by rw [hgb]; rfl, by decide +kernel, fun k hk => absurd hk (Nat.not_lt_zero k)⟩
  have Wz := hz p l e s m #[Value.ref b] below meth c s.heap [] la hCx hAt va_S.rf (by rw [hgb]; rfl) ⟨Nat.le_refl _, Nat.le_refl _⟩ hl'
  have t1 : TT0.1 = 0 := rfl
  have t2 : TT0.2.1 = 0 := rfl
  have t3 : TT462.2.1 ≤ 100000 := by decide +kernel
  intro Tt hTt X
  have X2 : Stand p l e (zR 1312 TT0 T') s m #[Value.ref b] below meth c Tt [] (TT0.1 - TT0.1) (TT0.2.1 - TT0.2.1) :=
    { X with room := zhr (r := zR 1312 TT0 T') (by show 1312 ≤ 2048; decide) (by show 64 * 1312 ≤ 84000; decide) (by show T'.1 - TT0.1 ≤ 600000; omega) (by show T'.2.1 - TT0.2.1 ≤ 7302250; omega) X.room }
  obtain ⟨t, st, o, run, ended, ⟨ho, hA', hF⟩, Lc, hFE, hLc⟩ := Wz Tt hTt X2
  refine ⟨t, st, o, run, ended, ho, hFE.1, hFE.2.1, hFE.2.2.weaken (fun y hy hlt => ?_) (by omega) (by omega)⟩
  have hq := hLc y hy
  rw [hgA] at hq
  exact absurd hlt (Nat.not_lt.mpr hq)
