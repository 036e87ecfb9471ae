/-! rows for the constructors -/
section NEWS
variable {p : Program} {l : Launch} {e : Env} {R : Room} {s : State} {m : MethodId} {args : Array Value} {below : List Frame} {meth : Method} {c : Code} {H : Heap} {locs : List Loc} {cells slots : Nat} {Q : State → Prop}
variable {cc : ByteArray} {pc : Nat} {ls : Array Slot} {rest : List Value} {D : va_G} {A : Nat → Prop} {a : Nat} {cI cZ cR : ClassId} {ws : va_W} {H0 : Heap} {own : String}
theorem dk_newi (hx : p.tables.exec = Jvm.exec) (hb : c.code = cc) (hts : ∀ w ∈ wsL_law, w.before args s = true) (hmem : Cond.arrayClass .int ∈ wsL_law) (hK : va_K D vwCl (dk_tys cI cZ cR) s) (hP : va_P D vwCl ws H) (hD : va_D A ws) (hS : va_S A H0 H locs) (hA : ∀ q, H0.size ≤ q → A q) {n : Int32} {N : Nat} (hn : ¬ n < 0) (hN : n.toNatClampNeg = N) (hbytes : N * 4 ≤ 536870912) (hcells : cells + 1 ≤ R.cells) (hslots : slots + N ≤ R.slots) (hdg : decode cc pc = .ok (.newarray .int, 2))
    (kk : ∀ (q : Nat) (H1 : Heap), va_P D vwCl (ws ++ [(q, .inl (cI, N, .inl (fun _ => 0)))]) H1 → va_D A (ws ++ [(q, .inl (cI, N, .inl (fun _ => 0)))]) → va_S A H0 H1 locs → W p l e R s m args below meth c H1 locs (cells + 1) (slots + N) Q (F0 m (pc + 2) ls (.ref q :: rest))) : W p l e R s m args below meth c H locs cells slots Q (F0 m pc ls (.int n :: rest)) := by
  refine va_newa (atype := .int) (ty := .int) (a0 := (N, .inl (fun _ => 0))) hx hb (hts _ hmem) rfl hK hP hD hS hA (fun cA => rfl) hn hN hbytes hcells hslots hdg (fun q cA H1 hK1 hP1 hD1 hS1 => ?_)
  have h0 : va_RA s cI .int := (hK.2 0 (cI, .int) rfl).2
  have h1 : va_RA s cA .int := (hK1.2 3 (cA, .int) rfl).2
  have e1 : cI = cA := Option.some.inj (h0.symm.trans h1)
  subst e1
  exact kk q H1 hP1 hD1 hS1
theorem dk_newz (hx : p.tables.exec = Jvm.exec) (hb : c.code = cc) (hts : ∀ w ∈ wsL_law, w.before args s = true) (hmem : Cond.arrayClass .boolean ∈ wsL_law) (hK : va_K D vwCl (dk_tys cI cZ cR) s) (hP : va_P D vwCl ws H) (hD : va_D A ws) (hS : va_S A H0 H locs) (hA : ∀ q, H0.size ≤ q → A q) {n : Int32} {N : Nat} (hn : ¬ n < 0) (hN : n.toNatClampNeg = N) (hbytes : N * 1 ≤ 536870912) (hcells : cells + 1 ≤ R.cells) (hslots : slots + N ≤ R.slots) (hdg : decode cc pc = .ok (.newarray .boolean, 2))
    (kk : ∀ (q : Nat) (H1 : Heap), va_P D vwCl (ws ++ [(q, .inl (cZ, N, .inl (fun _ => 0)))]) H1 → va_D A (ws ++ [(q, .inl (cZ, N, .inl (fun _ => 0)))]) → va_S A H0 H1 locs → W p l e R s m args below meth c H1 locs (cells + 1) (slots + N) Q (F0 m (pc + 2) ls (.ref q :: rest))) : W p l e R s m args below meth c H locs cells slots Q (F0 m pc ls (.int n :: rest)) := by
  refine va_newa (atype := .boolean) (ty := .boolean) (a0 := (N, .inl (fun _ => 0))) hx hb (hts _ hmem) rfl hK hP hD hS hA (fun cA => rfl) hn hN hbytes hcells hslots hdg (fun q cA H1 hK1 hP1 hD1 hS1 => ?_)
  have h0 : va_RA s cZ .boolean := (hK.2 1 (cZ, .boolean) rfl).2
  have h1 : va_RA s cA .boolean := (hK1.2 3 (cA, .boolean) rfl).2
  have e1 : cZ = cA := Option.some.inj (h0.symm.trans h1)
  subst e1
  exact kk q H1 hP1 hD1 hS1
theorem dk_putF (hx : p.tables.exec = Jvm.exec) (hb : c.code = cc) (hown : s.vm.findClass own = some m.cls) (hts : ∀ w ∈ wsL_law, w.before args s = true) (hK : va_K D vwCl (dk_tys cI cZ cR) s) (hP : va_P D vwCl ws H) (hD : va_D A ws) (hS : va_S A H0 H locs) (q0 : Nat) {ci idx k t N : Nat} {C : String} {T : u_T} {fs : List Value} (he : ws[q0]? = some (a, .inr (ci, fs))) (hc : vwCl[ci]? = some (C, T, N)) (hf : dk_fldok own (idx, ci, k, t)) (hfin : (T k).2.2.2 = true) (hin2 : meth.name = "<init>") (hdecl : (T k).1 = own) {ty : FieldType} {v : Value} (hd : parseFieldDescriptor (T k).2.2.1 = some ty) (hn : narrow ty v = v) (hfit : fits ty v = true) (hl : k < fs.length)
    (hdg : decode cc pc = .ok (.putfield idx, 3)) (kk : ∀ (H1 : Heap) (locs1 : List Loc), va_P D vwCl (ws.set q0 (a, .inr (ci, fs.set k v))) H1 → va_D A (ws.set q0 (a, .inr (ci, fs.set k v))) → va_S A H0 H1 locs1 → W p l e R s m args below meth c H1 locs1 cells slots Q (F0 m (pc + 3) ls rest)) : W p l e R s m args below meth c H locs cells slots Q (F0 m pc ls (v :: .ref a :: rest)) := by
  obtain ⟨C', T', N', g1, g2, g3, -, -⟩ := hf
  have e := Option.some.inj (g1.symm.trans hc)
  cases e
  obtain ⟨q1, ty0, q2, q3⟩ := dk_cls _ C T N hc
  exact va_putF hx hb hts q1 ty0 q2 q3 hown hK hP hD hS q0 he hc k g2 (hts _ g3) (fun _ z => z) hfin hin2 hdecl hd hn hfit hl hdg kk
theorem dk_putV (hx : p.tables.exec = Jvm.exec) (hb : c.code = cc) (hown : s.vm.findClass own = some m.cls) (hts : ∀ w ∈ wsL_law, w.before args s = true) (hK : va_K D vwCl (dk_tys cI cZ cR) s) (hP : va_P D vwCl ws H) (hD : va_D A ws) (hS : va_S A H0 H locs) (q0 : Nat) {ci idx k t N : Nat} {C : String} {T : u_T} {fs : List Value} (he : ws[q0]? = some (a, .inr (ci, fs))) (hc : vwCl[ci]? = some (C, T, N)) (hf : dk_fldok own (idx, ci, k, t)) (hfin : (T k).2.2.2 = false) {ty : FieldType} {v : Value} (hd : parseFieldDescriptor (T k).2.2.1 = some ty) (hn : narrow ty v = v) (hfit : fits ty v = true) (hl : k < fs.length)
    (hdg : decode cc pc = .ok (.putfield idx, 3)) (kk : ∀ (H1 : Heap) (locs1 : List Loc), va_P D vwCl (ws.set q0 (a, .inr (ci, fs.set k v))) H1 → va_D A (ws.set q0 (a, .inr (ci, fs.set k v))) → va_S A H0 H1 locs1 → W p l e R s m args below meth c H1 locs1 cells slots Q (F0 m (pc + 3) ls rest)) : W p l e R s m args below meth c H locs cells slots Q (F0 m pc ls (v :: .ref a :: rest)) := by
  obtain ⟨C', T', N', g1, g2, g3, -, -⟩ := hf
  have e := Option.some.inj (g1.symm.trans hc)
  cases e
  obtain ⟨q1, ty0, q2, q3⟩ := dk_cls _ C T N hc
  exact va_put hx hb hts q1 ty0 q2 q3 hown hK hP hD hS q0 he hc k g2 (hts _ g3) (fun _ z => z) hfin hd hn hfit hl hdg kk
theorem dk_getR (hx : p.tables.exec = Jvm.exec) (hb : c.code = cc) (hown : s.vm.findClass own = some m.cls) (hts : ∀ w ∈ wsL_law, w.before args s = true) (hK : va_K D vwCl (dk_tys cI cZ cR) s) (hP : va_P D vwCl ws H) (q0 : Nat) {ci idx k t N : Nat} {C : String} {T : u_T} {fs : List Value} (he : ws[q0]? = some (a, .inr (ci, fs))) (hc : vwCl[ci]? = some (C, T, N)) (hf : dk_fldok own (idx, ci, k, t)) {v : Value} (hv : fs[k]? = some v)
    (hdg : decode cc pc = .ok (.getfield idx, 3)) (kk : W p l e R s m args below meth c H locs cells slots Q (F0 m (pc + 3) ls (v :: rest))) : W p l e R s m args below meth c H locs cells slots Q (F0 m pc ls (.ref a :: rest)) := by
  obtain ⟨C', T', N', g1, g2, g3, -, -⟩ := hf
  have e := Option.some.inj (g1.symm.trans hc)
  cases e
  obtain ⟨q1, ty0, q2, q3⟩ := dk_cls _ C T N hc
  exact va_get hx hb hts q1 hown hK hP q0 he hc k g2 (hts _ g3) (fun _ z => z) hv hdg kk
theorem dk_newo (hx : p.tables.exec = Jvm.exec) (hb : c.code = cc) (hown : s.vm.findClass own = some m.cls) (hts : ∀ w ∈ wsL_law, w.before args s = true) (hK : va_K D vwCl (dk_tys cI cZ cR) s) (hP : va_P D vwCl ws H) (hD : va_D A ws) (hS : va_S A H0 H locs) (hA : ∀ q, H0.size ≤ q → A q) {ci idx N : Nat} {C : String} {T : u_T} {fs : List Value} (hc : vwCl[ci]? = some (C, T, N)) (ty : Nat → FieldType) (hty : ∀ k, k < N → parseFieldDescriptor (T k).2.2.1 = some (ty k)) (hfs : ∀ j, j < N → defaultValue (ty j) = vp_V fs j) (hw : ∀ w ∈ ([.classLink own idx C, .instantiable C N, .initialized C] : List Cond), w ∈ wsL_law) (hcells : cells + 1 ≤ R.cells) (hslots : slots + N ≤ R.slots) (hdg : decode cc pc = .ok (.new idx, 3))
    (kk : ∀ (q : Nat) (H1 : Heap), va_P D vwCl (ws ++ [(q, .inr (ci, fs))]) H1 → va_D A (ws ++ [(q, .inr (ci, fs))]) → va_S A H0 H1 locs → W p l e R s m args below meth c H1 locs (cells + 1) (slots + N) Q (F0 m (pc + 3) ls (.ref q :: rest))) : W p l e R s m args below meth c H locs cells slots Q (F0 m pc ls rest) := by
  obtain ⟨q1, -⟩ := dk_cls _ C T N hc
  exact va_new hx hb hts q1 ty hty hown (hts _ (hw _ (by simp))) (hts _ (hw _ (by simp))) (hts _ (hw _ (by simp))) hK hP hD hS hA hc hfs hcells hslots hdg kk
/-- new int[32][31] -/
theorem dk_mna (hx : p.tables.exec = Jvm.exec) (hb : c.code = cc) (hown : s.vm.findClass own = some m.cls) (hts : ∀ w ∈ wsL_law, w.before args s = true) (hover : va_AOA .int s) (hK : va_K D vwCl (dk_tys cI cZ cR) s) (hP : va_P D vwCl ws H) (hD : va_D A ws) (hS : va_S A H0 H locs) (hA : ∀ q, H0.size ≤ q → A q) {idx : Nat} (hw : ∀ w ∈ ([.classLink own idx "[[I", .arrayClass .int] : List Cond), w ∈ wsL_law) (hcells : cells + 33 ≤ R.cells) (hslots : slots + 1024 ≤ R.slots) (hdg : decode cc pc = .ok (.multianewarray idx 2, 4))
    (kk : ∀ (q : Nat) (r : Nat → Nat) (H1 : Heap), va_P D vwCl ((ws ++ [(q, .inl (cR, 32, .inr (.inr (.inr (.inr (fun i => if i < 32 then some (r i) else none))))))]) ++ (List.range 32).map (fun i => ((r i, .inl (cI, 31, .inl (fun _ => 0))) : Nat × va_E))) H1 → va_D A ((ws ++ [(q, .inl (cR, 32, .inr (.inr (.inr (.inr (fun i => if i < 32 then some (r i) else none))))))]) ++ (List.range 32).map (fun i => ((r i, .inl (cI, 31, .inl (fun _ => 0))) : Nat × va_E))) → va_S A H0 H1 locs → W p l e R s m args below meth c H1 locs (cells + 33) (slots + 1024) Q (F0 m (pc + 4) ls (.ref q :: rest))) : W p l e R s m args below meth c H locs cells slots Q (F0 m pc ls (.int 31 :: .int 32 :: rest)) := by
  have h0 : va_RA s cI .int := (hK.2 0 (cI, .int) rfl).2
  have es : "[" ++ (FieldType.array .int).toString = "[[I" := by decide +kernel
  have hcl : (Cond.classLink own idx ("[" ++ (FieldType.array .int).toString)).before args s = true := by rw [es]; exact hts _ (hw _ (by simp))
  have e0 : ws ++ va_pl [] (fun _ => .inl (cI, 31, .inl (fun _ => 0))) = ws := List.append_nil ws
  have hP' : va_P D vwCl (ws ++ va_pl [] (fun _ => .inl (cI, 31, .inl (fun _ => 0)))) H := by rw [e0]; exact hP
  have hD' : va_D A (ws ++ va_pl [] (fun _ => .inl (cI, 31, .inl (fun _ => 0)))) := by rw [e0]; exact hD
  refine va_mna (X := ws) (L := []) (f := fun _ => .inl (cI, 31, .inl (fun _ => 0))) (ty := .int) (cy := cI) (N' := 32) (K' := 31) (z := (31, .inl (fun _ => 0))) hx hb hown hcl hover (hts _ (hw _ (by simp))) h0 hK hP' hD' hS hA (by decide) (by decide) (by decide) (by decide) (by decide) (by decide) (by decide) rfl rfl hcells hslots (fun c0 => ?_) hdg (fun q r cA H1 h1 h2 hK1 hP1 hD1 hS1 => ?_)
  · show ({ cls := c0, slots := Array.replicate 31 (.int 0), vm := .none } : Cell) = arrV c0 31 (fun _ => .int 0)
    rw [arrV_new]
  · have g0 : va_RA s cR (.array .int) := (hK.2 2 (cR, .array .int) rfl).2
    have g1 : va_RA s cA (.array .int) := (hK1.2 3 (cA, .array .int) rfl).2
    have e1 : cR = cA := Option.some.inj (g0.symm.trans g1)
    subst e1
    have e2 : va_pl ([] ++ (List.range 32).map r) (vr_up (fun _ => .inl (cI, 31, .inl (fun _ => 0))) ((List.range 32).map r) (.inl (cI, 31, .inl (fun _ => 0)))) = (List.range 32).map (fun i => ((r i, .inl (cI, 31, .inl (fun _ => 0))) : Nat × va_E)) := by
      unfold va_pl vr_up
      rw [List.nil_append, List.map_map]
      apply List.map_congr_left
      intro i _
      simp
    rw [e2] at hP1 hD1
    exact kk q r H1 hP1 hD1 hS1
end NEWS
