section Z12
variable {g : zG} {d : Nat} {M : zM} {T0 T T' : zT} {pc : Nat} {ls : List (Option Value)} {st : List Value} {S S' : zS} {v : Option Value} {i : Nat}
theorem zX_ldcW {p : Program} {l : Launch} {e : Env} {R : Room} {s : State} {m : MethodId} {args : Array Value} {below : List Frame} {meth : Method} {c : Code} {T : State} {locs : List Loc} {cells slots : Nat}
    (X : Stand p l e R s m args below meth c T locs cells slots) (hexec : p.tables.exec = Jvm.exec) {own text : String} {index : Nat} {a : Addr} (hown : s.vm.findClass own = some m.cls)
    (hconst : (Cond.stringRef own index text).before args s = true) (hev : (Term.string own index).eval args s none [] s = some (.ref a)) {g : JFrame} (hg : g.method = m) (hdg : decode c.code g.pc = .ok (.ldc_w index, 3)) :
    ∀ target, Steps p.tables e below (T.setTop { g with pc := g.pc + 3, stack := .ref a :: g.stack }) target → Steps p.tables e below (T.setTop g) target := by
  obtain ⟨k, cf, i, a', hk, hcf, hcp, -, hr, hev'⟩ := Cond.stringRef_spec hown hconst
  cases hev.symm.trans hev'
  obtain ⟨k', hk', he⟩ := X.warmed.alike.2.2 _ _ hk
  have hr' : k'.resolved[index]? = some (some (.string a)) := by
    rcases X.warmed.entry hk hk' index with h | ⟨h, -⟩
    · rw [h]; exact hr
    · rw [hr] at h; cases h
  intro target hrest
  subst hg
  jvm_step X.here [hexec, hdg, ldc_w.wp_string (e := e) (s := T) (f := g) X.here.top hk' (by rw [he]; exact hcf) hcp hr']
  exact hrest
theorem z_ldcSW {idx : Nat} (hi : zSt[i]? = some (M.1, idx, (zsE i).2.2)) (hd : decode M.2.2.1 pc = .ok (.ldc_w idx, 3)) (kk : zg g d M T0 (pc + 3) ls (.ref (10002 + i) :: st) T S v T' S') : zg g d M T0 pc ls st T S v T' S' := by
  intro p l e s m args below meth c H locs la C hA hS hz h1 hl
  have k := kk p l e s m args below meth c H locs la C hA hS hz h1 hl
  rw [List.map_cons, zv_str] at k
  intro Tt hTt X
  obtain ⟨t, a1, b1⟩ := k Tt hTt X
  have hZ := (C.2.2.2.2.2.2.2.2.2.1.2.2.1.1 i _ hi).2.2.2.2
  exact ⟨t, zX_ldcW X C.1 C.2.2.2.2.1 hZ.1 hZ.2 (g := F0 m pc la (st.map (zv g))) rfl (by rw [C.2.1]; exact hd) t a1, b1⟩
end Z12
