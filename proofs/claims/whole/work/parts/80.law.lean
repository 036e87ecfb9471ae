/-! the law's loop; by program (wip/tools/mk80.py) -/
section LAW
variable {p : Program} {l : Launch} {e : Env} {s : State} {m : MethodId} {below : List Frame} {meth : Method} {c : Code} {D : va_G} {cI cZ cR : ClassId} {ad : Nat → Nat} {b L : Nat} {xs : Nat → Int32} {Q : State → Prop}
abbrev lawA (s : State) : Nat → Prop := fun q : Nat => s.heap.size ≤ q
set_option maxHeartbeats 4000000 in
theorem law_call (hx : p.tables.exec = Jvm.exec) (hb : c.code = code) (hml : c.maxLocals = 4) (hown : s.vm.findClass RL = some m.cls) (hts : ∀ w ∈ wsL_law, w.before #[Value.ref b] s = true) (hK : va_K D vwCl (dk_tys cI cZ cR) s) (hnst : dk_nest s)
    {C : String} {cy : ByteArray} {maxL idx n : Nat} {ret : Option FieldType} {y : MethodName} {rm : Room} {M : dk_M} (hM : dk_Met l D cI cZ cR ad y cy maxL ret rm M) (hmt : M.2.1 = true) (hw : ∀ w ∈ ([.methodLink RL idx y, .instanceMethod y, .selects C y y, .initialized C, .code y cy maxL ret] : List Cond), w ∈ wsL_law)
    (hd : y.cls = C ∧ y.cls ≠ "java/lang/invoke/MethodHandle" ∧ y.cls ≠ "java/lang/invoke/VarHandle" ∧ (parseMethodDescriptor y.desc).map (fun d => d.parameters.length) = some n) (hrm : (rm.cells = 0 ∧ rm.slots = 0) ∧ rm.frames + 1 ≤ room_1.frames ∧ 8 + (maxL + 11) + rm.locals ≤ room_1.locals)
    {k ci N : Nat} {fs : List (Option Nat)} {T : u_T} (hob : dk_obj k = some (ci, fs)) (hcl : vwCl[ci]? = some (C, T, N)) (r : List dk_V) (hrl : r.length = n) {σ : dk_S} (hpre : M.2.2.1 (.inr k :: r) σ) {H : Heap} {locs : List Loc} {ls : Array Slot} (hP : va_P D vwCl (dk_W cI cZ cR ad σ) H) (hD : va_D (lawA s) (dk_W cI cZ cR ad σ)) (hS : va_S (lawA s) s.heap H locs) (hl : ls.size = 4) (rest : List Value) (hrest : (rest.map fun v => v.category).sum ≤ 8) {pc : Nat} {st : List Value} (hst : st = (r.map (dk_v ad)).reverse ++ .ref (ad k) :: rest) (hdec : decode code pc = .ok (.invokevirtual idx, 3))
    (kk : ∀ (v : Int32) (σ' : dk_S) (H1 : Heap) (locs1 : List Loc), M.2.2.2 (.inr k :: r) σ v σ' → va_P D vwCl (dk_W cI cZ cR ad σ') H1 → va_D (lawA s) (dk_W cI cZ cR ad σ') → va_S (lawA s) s.heap H1 locs1 → W p l e room_1 s m #[Value.ref b] below meth c H1 locs1 600000 7302250 Q (F0 m (pc + 3) ls (.int v :: rest))) :
    W p l e room_1 s m #[Value.ref b] below meth c H locs 600000 7302250 Q (F0 m pc ls st) := by
  have hGd : GoodIn wsL_law (wsV RL idx C y (Cond.code y cy maxL ret :: wsL_law)) := dk_good (fun w hh => by
    unfold wsV at hh
    rcases List.mem_append.mp hh with hh | hh
    · exact hw w (by simp at hh ⊢; rcases hh with h | h | h | h <;> simp [h])
    · rcases List.mem_cons.mp hh with hh | hh
      · exact hw w (by simp [hh])
      · exact hh)
  have hg := dk_W_get (cI := cI) (cZ := cZ) (cR := cR) (ad := ad) (σ := σ) (dk_obj_lt hob)
  rw [dk_cell_obj hob] at hg
  have hMM := hM _ σ H.size hpre
  have hrun := va_runV (l := l) (e := e) (R := room_1) (below := below) (meth := meth) (locs := locs) (cells := 600000) (slots := 7302250) (nL := 4) (g := F0 m pc ls st) (As := r.map (dk_v ad)) (rest := rest) (b := ad k) ⟨hx, hb, hml, hown, hts⟩ hMM (cwV n hts hGd rfl hrm.1.1 hrm.1.2 hd hrm.2)
    ⟨dk_blind, va_recv hK hP hcl hg, fun U hU hW => ⟨rfl, by rw [hU], by rw [hU]; exact hP, va_K.moved hW.alike hK, hD.weaken (fun _ _ _ _ => trivial), hnst.warm hW⟩⟩ rfl (by rw [List.length_map, hrl]) hl hst
    (lv_room hrest) hdec ⟨Nat.le_of_ble_eq_true rfl, Nat.le_of_ble_eq_true rfl⟩
  have hF : ∀ q, va_A (dk_W cI cZ cR ad σ) H.size q → lawA s q := by
    rintro q (⟨k, x, hq⟩ | hq)
    · exact hD.2 k _ hq
    · exact Nat.le_trans hS.1 hq
  unfold dk_Qc at hrun
  rw [hmt] at hrun
  refine va_calli hrun hS (fun q _ h => hF q h) hF (fun r u t H1 locs1 ht hvm hw hB hz1 hk1 hS1 => ?_)
  obtain ⟨hP1, -, hD1, -⟩ := hB
  rw [ht] at hP1
  exact kk r u H1 locs1 hw hP1 (hD1.weaken (fun _ q _ h => hF q.1 h)) hS1
/-- the script's int j behind the place i -/
theorem law_ld (hx : p.tables.exec = Jvm.exec) (hb : c.code = code) (hX : va_X b L xs s s.heap) (hbl : b < s.heap.size) (hL : L ≤ 2048) {H : Heap} {locs : List Loc} {ls : Array Slot} {i : Nat} {lv : List (Nat × Value)} (hS : va_S (lawA s) s.heap H locs) (hl : lv_has ls 4 [(0, .ref b), (1, .ref (ad 0)), (2, .ref (ad 30)), (3, .int (nI i))]) {pc : Nat} {st : List Value} (j : Nat) (hj : j < 4) (hi : i + 4 ≤ L)
    (d0 : decode code pc = .ok (.aload_n 0, 1)) (d1 : decode code (pc + 1) = .ok (.iload_n 3, 1)) {z : Int} (d2 : decode code (pc + 1 + 1) = .ok (.iconst z, 1)) (hz : Int32.ofInt z = nI j) (d3 : decode code (pc + 1 + 1 + 1) = .ok (.iadd, 1)) (d4 : decode code (pc + 1 + 1 + 1 + 1) = .ok (.iaload, 1))
    (kk : W p l e room_1 s m #[Value.ref b] below meth c H locs 600000 7302250 Q (F0 m (pc + 1 + 1 + 1 + 1 + 1) ls (.int (xs (i + j)) :: st))) : W p l e room_1 s m #[Value.ref b] below meth c H locs 600000 7302250 Q (F0 m pc ls st) := by
  have hbA : ¬ lawA s b := Nat.not_le.mpr hbl
  have e1 : nI i + nI j = nI (i + j) := (Int32.ofNat_add i j).symm
  refine lv_aload_n hx hb d0 rfl (lv_at hl 0 rfl) ?_
  refine lv_iload_n hx hb d1 rfl (lv_at hl 3 rfl) ?_
  refine lv_iconst (v := nI j) hx hb d2 hz ?_
  refine lv_iadd hx hb d3 ?_
  rw [e1]
  refine va_sld hx hb hX hbl hbA hS (vp_in_nI (by omega) (by omega)) d4 ?_
  rw [nI_clamp (by omega)]
  exact kk

set_option maxRecDepth 100000 in
set_option maxHeartbeats 4000000 in
theorem law_task (hx : p.tables.exec = Jvm.exec) (hb : c.code = code) (hml : c.maxLocals = 4) (hown : s.vm.findClass RL = some m.cls) (hts : ∀ w ∈ wsL_law, w.before #[Value.ref b] s = true) (hK : va_K D vwCl (dk_tys cI cZ cR) s) (hnst : dk_nest s) (hX : va_X b L xs s s.heap) (hbl : b < s.heap.size) (hL : L ≤ 2048) {H : Heap} {locs : List Loc} {ls : Array Slot} {i : Nat} (hi : i + 4 ≤ L) (hl : lv_has ls 4 [(0, .ref b), (1, .ref (ad 0)), (2, .ref (ad 30)), (3, .int (nI i))]) {σ : dk_S} (hR : Rel σ) (hP : va_P D vwCl (dk_W cI cZ cR ad σ) H) (hD : va_D (lawA s) (dk_W cI cZ cR ad σ)) (hS : va_S (lawA s) s.heap H locs)
    (next : ∀ (σ : dk_S) (H : Heap) (locs : List Loc), Rel σ → va_P D vwCl (dk_W cI cZ cR ad σ) H → va_D (lawA s) (dk_W cI cZ cR ad σ) → va_S (lawA s) s.heap H locs → W p l e room_1 s m #[Value.ref b] below meth c H locs 600000 7302250 Q (F0 m 547 ls [])) : W p l e room_1 s m #[Value.ref b] below meth c H locs 600000 7302250 Q (F0 m 116 ls []) := by
  have hT := t_task (xs (i + 1)) σ hR
  refine lv_aload_n hx hb dL_law_116 rfl (lv_at hl 1 rfl) ?_
  refine law_ld (ad := ad) (lv := []) hx hb hX hbl hL hS hl 1 (by decide) hi dL_law_117 dL_law_118 dL_law_119 rfl dL_law_120 dL_law_121 ?_
  refine law_call (n := 1) (C := RX6) (k := 0) (D := D) (cI := cI) (cZ := cZ) (cR := cR) (ad := ad) hx hb hml hown hts hK hnst m_xtask rfl (List.forall_mem_cons.mpr ⟨wsL_i5 (List.mem_of_getElem? (i := 19) rfl), List.forall_mem_cons.mpr ⟨wsL_i5 (List.mem_of_getElem? (i := 20) rfl), List.forall_mem_cons.mpr ⟨wsL_i5 (List.mem_of_getElem? (i := 21) rfl), List.forall_mem_cons.mpr ⟨wsL_i1 (List.mem_of_getElem? (i := 2) rfl), List.forall_mem_cons.mpr ⟨wsL_i5 (List.mem_of_getElem? (i := 22) rfl), fun _ h => absurd h List.not_mem_nil⟩⟩⟩⟩⟩) ⟨rfl, by decide, by decide, by decide +kernel⟩ ⟨⟨rfl, rfl⟩, by decide, by decide⟩ rfl rfl [.inl (xs (i + 1))] rfl (hT.1) hP hD hS hl.1 [] (Nat.le_of_ble_eq_true rfl) rfl dL_law_122 (fun v σ1 H locs hq hP hD hS => ?_)
  have hT2 := hT.2 v σ1 hq
  refine lv_aload_n hx hb dL_law_125 rfl (lv_at hl 2 rfl) ?_
  refine law_ld (ad := ad) (lv := []) hx hb hX hbl hL hS hl 1 (by decide) hi dL_law_126 dL_law_127 dL_law_128 rfl dL_law_129 dL_law_130 ?_
  refine law_call (n := 1) (C := RX7) (k := 30) (D := D) (cI := cI) (cZ := cZ) (cR := cR) (ad := ad) hx hb hml hown hts hK hnst m_mtask rfl (List.forall_mem_cons.mpr ⟨wsL_i6 (List.mem_of_getElem? (i := 9) rfl), List.forall_mem_cons.mpr ⟨wsL_i6 (List.mem_of_getElem? (i := 10) rfl), List.forall_mem_cons.mpr ⟨wsL_i6 (List.mem_of_getElem? (i := 11) rfl), List.forall_mem_cons.mpr ⟨wsL_i1 (List.mem_of_getElem? (i := 5) rfl), List.forall_mem_cons.mpr ⟨wsL_i6 (List.mem_of_getElem? (i := 12) rfl), fun _ h => absurd h List.not_mem_nil⟩⟩⟩⟩⟩) ⟨rfl, by decide, by decide, by decide +kernel⟩ ⟨⟨rfl, rfl⟩, by decide, by decide⟩ rfl rfl [.inl (xs (i + 1))] rfl (hT2.1) hP hD hS hl.1 [.int v] (Nat.le_of_ble_eq_true rfl) rfl dL_law_131 (fun v2 σ2 H locs hq2 hP hD hS => ?_)
  have e := hT2.2 v2 σ2 hq2
  exact lv_icmp_eq (tgt := 547) hx hb dL_law_134 (by decide) (fun _ => next σ2 H locs e.2 hP hD hS) (fun q => absurd e.1.symm q)
set_option maxRecDepth 100000 in
set_option maxHeartbeats 4000000 in
theorem law_constrain (hx : p.tables.exec = Jvm.exec) (hb : c.code = code) (hml : c.maxLocals = 4) (hown : s.vm.findClass RL = some m.cls) (hts : ∀ w ∈ wsL_law, w.before #[Value.ref b] s = true) (hK : va_K D vwCl (dk_tys cI cZ cR) s) (hnst : dk_nest s) (hX : va_X b L xs s s.heap) (hbl : b < s.heap.size) (hL : L ≤ 2048) {H : Heap} {locs : List Loc} {ls : Array Slot} {i : Nat} (hi : i + 4 ≤ L) (hl : lv_has ls 4 [(0, .ref b), (1, .ref (ad 0)), (2, .ref (ad 30)), (3, .int (nI i))]) {σ : dk_S} (hR : Rel σ) (hP : va_P D vwCl (dk_W cI cZ cR ad σ) H) (hD : va_D (lawA s) (dk_W cI cZ cR ad σ)) (hS : va_S (lawA s) s.heap H locs)
    (next : ∀ (σ : dk_S) (H : Heap) (locs : List Loc), Rel σ → va_P D vwCl (dk_W cI cZ cR ad σ) H → va_D (lawA s) (dk_W cI cZ cR ad σ) → va_S (lawA s) s.heap H locs → W p l e room_1 s m #[Value.ref b] below meth c H locs 600000 7302250 Q (F0 m 547 ls [])) : W p l e room_1 s m #[Value.ref b] below meth c H locs 600000 7302250 Q (F0 m 139 ls []) := by
  have hT := t_constrain (xs (i + 1)) (xs (i + 2)) (xs (i + 3)) σ hR
  refine lv_aload_n hx hb dL_law_139 rfl (lv_at hl 1 rfl) ?_
  refine law_ld (ad := ad) (lv := []) hx hb hX hbl hL hS hl 1 (by decide) hi dL_law_140 dL_law_141 dL_law_142 rfl dL_law_143 dL_law_144 ?_
  refine law_ld (ad := ad) (lv := []) hx hb hX hbl hL hS hl 2 (by decide) hi dL_law_145 dL_law_146 dL_law_147 rfl dL_law_148 dL_law_149 ?_
  refine law_ld (ad := ad) (lv := []) hx hb hX hbl hL hS hl 3 (by decide) hi dL_law_150 dL_law_151 dL_law_152 rfl dL_law_153 dL_law_154 ?_
  refine law_call (n := 3) (C := RX6) (k := 0) (D := D) (cI := cI) (cZ := cZ) (cR := cR) (ad := ad) hx hb hml hown hts hK hnst m_xconstrain rfl (List.forall_mem_cons.mpr ⟨wsL_i6 (List.mem_of_getElem? (i := 21) rfl), List.forall_mem_cons.mpr ⟨wsL_i6 (List.mem_of_getElem? (i := 22) rfl), List.forall_mem_cons.mpr ⟨wsL_i6 (List.mem_of_getElem? (i := 23) rfl), List.forall_mem_cons.mpr ⟨wsL_i1 (List.mem_of_getElem? (i := 2) rfl), List.forall_mem_cons.mpr ⟨wsL_i7 (List.mem_of_getElem? (i := 0) rfl), fun _ h => absurd h List.not_mem_nil⟩⟩⟩⟩⟩) ⟨rfl, by decide, by decide, by decide +kernel⟩ ⟨⟨rfl, rfl⟩, by decide, by decide⟩ rfl rfl [.inl (xs (i + 1)), .inl (xs (i + 2)), .inl (xs (i + 3))] rfl (hT.1) hP hD hS hl.1 [] (Nat.le_of_ble_eq_true rfl) rfl dL_law_155 (fun v σ1 H locs hq hP hD hS => ?_)
  have hT2 := hT.2 v σ1 hq
  refine lv_aload_n hx hb dL_law_158 rfl (lv_at hl 2 rfl) ?_
  refine law_ld (ad := ad) (lv := []) hx hb hX hbl hL hS hl 1 (by decide) hi dL_law_159 dL_law_160 dL_law_161 rfl dL_law_162 dL_law_163 ?_
  refine law_ld (ad := ad) (lv := []) hx hb hX hbl hL hS hl 2 (by decide) hi dL_law_164 dL_law_165 dL_law_166 rfl dL_law_167 dL_law_168 ?_
  refine law_ld (ad := ad) (lv := []) hx hb hX hbl hL hS hl 3 (by decide) hi dL_law_169 dL_law_170 dL_law_171 rfl dL_law_172 dL_law_173 ?_
  refine law_call (n := 3) (C := RX7) (k := 30) (D := D) (cI := cI) (cZ := cZ) (cR := cR) (ad := ad) hx hb hml hown hts hK hnst m_mconstrain rfl (List.forall_mem_cons.mpr ⟨wsL_i7 (List.mem_of_getElem? (i := 17) rfl), List.forall_mem_cons.mpr ⟨wsL_i7 (List.mem_of_getElem? (i := 18) rfl), List.forall_mem_cons.mpr ⟨wsL_i7 (List.mem_of_getElem? (i := 19) rfl), List.forall_mem_cons.mpr ⟨wsL_i1 (List.mem_of_getElem? (i := 5) rfl), List.forall_mem_cons.mpr ⟨wsL_i7 (List.mem_of_getElem? (i := 20) rfl), fun _ h => absurd h List.not_mem_nil⟩⟩⟩⟩⟩) ⟨rfl, by decide, by decide, by decide +kernel⟩ ⟨⟨rfl, rfl⟩, by decide, by decide⟩ rfl rfl [.inl (xs (i + 1)), .inl (xs (i + 2)), .inl (xs (i + 3))] rfl (hT2.1) hP hD hS hl.1 [.int v] (Nat.le_of_ble_eq_true rfl) rfl dL_law_174 (fun v2 σ2 H locs hq2 hP hD hS => ?_)
  have e := hT2.2 v2 σ2 hq2
  exact lv_icmp_eq (tgt := 547) hx hb dL_law_177 (by decide) (fun _ => next σ2 H locs e.2 hP hD hS) (fun q => absurd e.1.symm q)
set_option maxRecDepth 100000 in
set_option maxHeartbeats 4000000 in
theorem law_drop (hx : p.tables.exec = Jvm.exec) (hb : c.code = code) (hml : c.maxLocals = 4) (hown : s.vm.findClass RL = some m.cls) (hts : ∀ w ∈ wsL_law, w.before #[Value.ref b] s = true) (hK : va_K D vwCl (dk_tys cI cZ cR) s) (hnst : dk_nest s) (hX : va_X b L xs s s.heap) (hbl : b < s.heap.size) (hL : L ≤ 2048) {H : Heap} {locs : List Loc} {ls : Array Slot} {i : Nat} (hi : i + 4 ≤ L) (hl : lv_has ls 4 [(0, .ref b), (1, .ref (ad 0)), (2, .ref (ad 30)), (3, .int (nI i))]) {σ : dk_S} (hR : Rel σ) (hP : va_P D vwCl (dk_W cI cZ cR ad σ) H) (hD : va_D (lawA s) (dk_W cI cZ cR ad σ)) (hS : va_S (lawA s) s.heap H locs)
    (next : ∀ (σ : dk_S) (H : Heap) (locs : List Loc), Rel σ → va_P D vwCl (dk_W cI cZ cR ad σ) H → va_D (lawA s) (dk_W cI cZ cR ad σ) → va_S (lawA s) s.heap H locs → W p l e room_1 s m #[Value.ref b] below meth c H locs 600000 7302250 Q (F0 m 547 ls [])) : W p l e room_1 s m #[Value.ref b] below meth c H locs 600000 7302250 Q (F0 m 182 ls []) := by
  have hT := t_drop (xs (i + 1)) σ hR
  refine lv_aload_n hx hb dL_law_182 rfl (lv_at hl 1 rfl) ?_
  refine law_ld (ad := ad) (lv := []) hx hb hX hbl hL hS hl 1 (by decide) hi dL_law_183 dL_law_184 dL_law_185 rfl dL_law_186 dL_law_187 ?_
  refine law_call (n := 1) (C := RX6) (k := 0) (D := D) (cI := cI) (cZ := cZ) (cR := cR) (ad := ad) hx hb hml hown hts hK hnst m_xdrop rfl (List.forall_mem_cons.mpr ⟨wsL_i7 (List.mem_of_getElem? (i := 22) rfl), List.forall_mem_cons.mpr ⟨wsL_i7 (List.mem_of_getElem? (i := 23) rfl), List.forall_mem_cons.mpr ⟨wsL_i8 (List.mem_of_getElem? (i := 0) rfl), List.forall_mem_cons.mpr ⟨wsL_i1 (List.mem_of_getElem? (i := 2) rfl), List.forall_mem_cons.mpr ⟨wsL_i8 (List.mem_of_getElem? (i := 1) rfl), fun _ h => absurd h List.not_mem_nil⟩⟩⟩⟩⟩) ⟨rfl, by decide, by decide, by decide +kernel⟩ ⟨⟨rfl, rfl⟩, by decide, by decide⟩ rfl rfl [.inl (xs (i + 1))] rfl (hT.1) hP hD hS hl.1 [] (Nat.le_of_ble_eq_true rfl) rfl dL_law_188 (fun v σ1 H locs hq hP hD hS => ?_)
  have hT2 := hT.2 v σ1 hq
  refine lv_aload_n hx hb dL_law_191 rfl (lv_at hl 2 rfl) ?_
  refine law_ld (ad := ad) (lv := []) hx hb hX hbl hL hS hl 1 (by decide) hi dL_law_192 dL_law_193 dL_law_194 rfl dL_law_195 dL_law_196 ?_
  refine law_call (n := 1) (C := RX7) (k := 30) (D := D) (cI := cI) (cZ := cZ) (cR := cR) (ad := ad) hx hb hml hown hts hK hnst m_mdrop rfl (List.forall_mem_cons.mpr ⟨wsL_i8 (List.mem_of_getElem? (i := 7) rfl), List.forall_mem_cons.mpr ⟨wsL_i8 (List.mem_of_getElem? (i := 8) rfl), List.forall_mem_cons.mpr ⟨wsL_i8 (List.mem_of_getElem? (i := 9) rfl), List.forall_mem_cons.mpr ⟨wsL_i1 (List.mem_of_getElem? (i := 5) rfl), List.forall_mem_cons.mpr ⟨wsL_i8 (List.mem_of_getElem? (i := 10) rfl), fun _ h => absurd h List.not_mem_nil⟩⟩⟩⟩⟩) ⟨rfl, by decide, by decide, by decide +kernel⟩ ⟨⟨rfl, rfl⟩, by decide, by decide⟩ rfl rfl [.inl (xs (i + 1))] rfl (hT2.1) hP hD hS hl.1 [.int v] (Nat.le_of_ble_eq_true rfl) rfl dL_law_197 (fun v2 σ2 H locs hq2 hP hD hS => ?_)
  have e := hT2.2 v2 σ2 hq2
  exact lv_icmp_eq (tgt := 547) hx hb dL_law_200 (by decide) (fun _ => next σ2 H locs e.2 hP hD hS) (fun q => absurd e.1.symm q)
set_option maxRecDepth 100000 in
set_option maxHeartbeats 4000000 in
theorem law_worker (hx : p.tables.exec = Jvm.exec) (hb : c.code = code) (hml : c.maxLocals = 4) (hown : s.vm.findClass RL = some m.cls) (hts : ∀ w ∈ wsL_law, w.before #[Value.ref b] s = true) (hK : va_K D vwCl (dk_tys cI cZ cR) s) (hnst : dk_nest s) (hX : va_X b L xs s s.heap) (hbl : b < s.heap.size) (hL : L ≤ 2048) {H : Heap} {locs : List Loc} {ls : Array Slot} {i : Nat} (hi : i + 4 ≤ L) (hl : lv_has ls 4 [(0, .ref b), (1, .ref (ad 0)), (2, .ref (ad 30)), (3, .int (nI i))]) {σ : dk_S} (hR : Rel σ) (hP : va_P D vwCl (dk_W cI cZ cR ad σ) H) (hD : va_D (lawA s) (dk_W cI cZ cR ad σ)) (hS : va_S (lawA s) s.heap H locs)
    (next : ∀ (σ : dk_S) (H : Heap) (locs : List Loc), Rel σ → va_P D vwCl (dk_W cI cZ cR ad σ) H → va_D (lawA s) (dk_W cI cZ cR ad σ) → va_S (lawA s) s.heap H locs → W p l e room_1 s m #[Value.ref b] below meth c H locs 600000 7302250 Q (F0 m 547 ls [])) : W p l e room_1 s m #[Value.ref b] below meth c H locs 600000 7302250 Q (F0 m 205 ls []) := by
  have hT := t_worker  σ hR
  refine lv_aload_n hx hb dL_law_205 rfl (lv_at hl 1 rfl) ?_
  refine law_call (n := 0) (C := RX6) (k := 0) (D := D) (cI := cI) (cZ := cZ) (cR := cR) (ad := ad) hx hb hml hown hts hK hnst m_xworker rfl (List.forall_mem_cons.mpr ⟨wsL_i8 (List.mem_of_getElem? (i := 12) rfl), List.forall_mem_cons.mpr ⟨wsL_i8 (List.mem_of_getElem? (i := 13) rfl), List.forall_mem_cons.mpr ⟨wsL_i8 (List.mem_of_getElem? (i := 14) rfl), List.forall_mem_cons.mpr ⟨wsL_i1 (List.mem_of_getElem? (i := 2) rfl), List.forall_mem_cons.mpr ⟨wsL_i8 (List.mem_of_getElem? (i := 15) rfl), fun _ h => absurd h List.not_mem_nil⟩⟩⟩⟩⟩) ⟨rfl, by decide, by decide, by decide +kernel⟩ ⟨⟨rfl, rfl⟩, by decide, by decide⟩ rfl rfl [] rfl (hT.1) hP hD hS hl.1 [] (Nat.le_of_ble_eq_true rfl) rfl dL_law_206 (fun v σ1 H locs hq hP hD hS => ?_)
  have hT2 := hT.2 v σ1 hq
  refine lv_aload_n hx hb dL_law_209 rfl (lv_at hl 2 rfl) ?_
  refine law_call (n := 0) (C := RX7) (k := 30) (D := D) (cI := cI) (cZ := cZ) (cR := cR) (ad := ad) hx hb hml hown hts hK hnst m_mworker rfl (List.forall_mem_cons.mpr ⟨wsL_i8 (List.mem_of_getElem? (i := 21) rfl), List.forall_mem_cons.mpr ⟨wsL_i8 (List.mem_of_getElem? (i := 22) rfl), List.forall_mem_cons.mpr ⟨wsL_i8 (List.mem_of_getElem? (i := 23) rfl), List.forall_mem_cons.mpr ⟨wsL_i1 (List.mem_of_getElem? (i := 5) rfl), List.forall_mem_cons.mpr ⟨wsL_i9 (List.mem_of_getElem? (i := 0) rfl), fun _ h => absurd h List.not_mem_nil⟩⟩⟩⟩⟩) ⟨rfl, by decide, by decide, by decide +kernel⟩ ⟨⟨rfl, rfl⟩, by decide, by decide⟩ rfl rfl [] rfl (hT2.1) hP hD hS hl.1 [.int v] (Nat.le_of_ble_eq_true rfl) rfl dL_law_210 (fun v2 σ2 H locs hq2 hP hD hS => ?_)
  have e := hT2.2 v2 σ2 hq2
  exact lv_icmp_eq (tgt := 547) hx hb dL_law_213 (by decide) (fun _ => next σ2 H locs e.2 hP hD hS) (fun q => absurd e.1.symm q)
set_option maxRecDepth 100000 in
set_option maxHeartbeats 4000000 in
theorem law_skill (hx : p.tables.exec = Jvm.exec) (hb : c.code = code) (hml : c.maxLocals = 4) (hown : s.vm.findClass RL = some m.cls) (hts : ∀ w ∈ wsL_law, w.before #[Value.ref b] s = true) (hK : va_K D vwCl (dk_tys cI cZ cR) s) (hnst : dk_nest s) (hX : va_X b L xs s s.heap) (hbl : b < s.heap.size) (hL : L ≤ 2048) {H : Heap} {locs : List Loc} {ls : Array Slot} {i : Nat} (hi : i + 4 ≤ L) (hl : lv_has ls 4 [(0, .ref b), (1, .ref (ad 0)), (2, .ref (ad 30)), (3, .int (nI i))]) {σ : dk_S} (hR : Rel σ) (hP : va_P D vwCl (dk_W cI cZ cR ad σ) H) (hD : va_D (lawA s) (dk_W cI cZ cR ad σ)) (hS : va_S (lawA s) s.heap H locs)
    (next : ∀ (σ : dk_S) (H : Heap) (locs : List Loc), Rel σ → va_P D vwCl (dk_W cI cZ cR ad σ) H → va_D (lawA s) (dk_W cI cZ cR ad σ) → va_S (lawA s) s.heap H locs → W p l e room_1 s m #[Value.ref b] below meth c H locs 600000 7302250 Q (F0 m 547 ls [])) : W p l e room_1 s m #[Value.ref b] below meth c H locs 600000 7302250 Q (F0 m 218 ls []) := by
  have hT := t_skill (xs (i + 1)) (xs (i + 2)) σ hR
  refine lv_aload_n hx hb dL_law_218 rfl (lv_at hl 1 rfl) ?_
  refine law_ld (ad := ad) (lv := []) hx hb hX hbl hL hS hl 1 (by decide) hi dL_law_219 dL_law_220 dL_law_221 rfl dL_law_222 dL_law_223 ?_
  refine law_ld (ad := ad) (lv := []) hx hb hX hbl hL hS hl 2 (by decide) hi dL_law_224 dL_law_225 dL_law_226 rfl dL_law_227 dL_law_228 ?_
  refine law_call (n := 2) (C := RX6) (k := 0) (D := D) (cI := cI) (cZ := cZ) (cR := cR) (ad := ad) hx hb hml hown hts hK hnst m_xskill rfl (List.forall_mem_cons.mpr ⟨wsL_i9 (List.mem_of_getElem? (i := 2) rfl), List.forall_mem_cons.mpr ⟨wsL_i9 (List.mem_of_getElem? (i := 3) rfl), List.forall_mem_cons.mpr ⟨wsL_i9 (List.mem_of_getElem? (i := 4) rfl), List.forall_mem_cons.mpr ⟨wsL_i1 (List.mem_of_getElem? (i := 2) rfl), List.forall_mem_cons.mpr ⟨wsL_i9 (List.mem_of_getElem? (i := 5) rfl), fun _ h => absurd h List.not_mem_nil⟩⟩⟩⟩⟩) ⟨rfl, by decide, by decide, by decide +kernel⟩ ⟨⟨rfl, rfl⟩, by decide, by decide⟩ rfl rfl [.inl (xs (i + 1)), .inl (xs (i + 2))] rfl (hT.1) hP hD hS hl.1 [] (Nat.le_of_ble_eq_true rfl) rfl dL_law_229 (fun v σ1 H locs hq hP hD hS => ?_)
  have hT2 := hT.2 v σ1 hq
  refine lv_aload_n hx hb dL_law_232 rfl (lv_at hl 2 rfl) ?_
  refine law_ld (ad := ad) (lv := []) hx hb hX hbl hL hS hl 1 (by decide) hi dL_law_233 dL_law_234 dL_law_235 rfl dL_law_236 dL_law_237 ?_
  refine law_ld (ad := ad) (lv := []) hx hb hX hbl hL hS hl 2 (by decide) hi dL_law_238 dL_law_239 dL_law_240 rfl dL_law_241 dL_law_242 ?_
  refine law_call (n := 2) (C := RX7) (k := 30) (D := D) (cI := cI) (cZ := cZ) (cR := cR) (ad := ad) hx hb hml hown hts hK hnst m_mskill rfl (List.forall_mem_cons.mpr ⟨wsL_i9 (List.mem_of_getElem? (i := 18) rfl), List.forall_mem_cons.mpr ⟨wsL_i9 (List.mem_of_getElem? (i := 19) rfl), List.forall_mem_cons.mpr ⟨wsL_i9 (List.mem_of_getElem? (i := 20) rfl), List.forall_mem_cons.mpr ⟨wsL_i1 (List.mem_of_getElem? (i := 5) rfl), List.forall_mem_cons.mpr ⟨wsL_i9 (List.mem_of_getElem? (i := 21) rfl), fun _ h => absurd h List.not_mem_nil⟩⟩⟩⟩⟩) ⟨rfl, by decide, by decide, by decide +kernel⟩ ⟨⟨rfl, rfl⟩, by decide, by decide⟩ rfl rfl [.inl (xs (i + 1)), .inl (xs (i + 2))] rfl (hT2.1) hP hD hS hl.1 [.int v] (Nat.le_of_ble_eq_true rfl) rfl dL_law_243 (fun v2 σ2 H locs hq2 hP hD hS => ?_)
  have e := hT2.2 v2 σ2 hq2
  exact lv_icmp_eq (tgt := 547) hx hb dL_law_246 (by decide) (fun _ => next σ2 H locs e.2 hP hD hS) (fun q => absurd e.1.symm q)
set_option maxRecDepth 100000 in
set_option maxHeartbeats 4000000 in
theorem law_solve (hx : p.tables.exec = Jvm.exec) (hb : c.code = code) (hml : c.maxLocals = 4) (hown : s.vm.findClass RL = some m.cls) (hts : ∀ w ∈ wsL_law, w.before #[Value.ref b] s = true) (hK : va_K D vwCl (dk_tys cI cZ cR) s) (hnst : dk_nest s) (hX : va_X b L xs s s.heap) (hbl : b < s.heap.size) (hL : L ≤ 2048) {H : Heap} {locs : List Loc} {ls : Array Slot} {i : Nat} (hi : i + 4 ≤ L) (hl : lv_has ls 4 [(0, .ref b), (1, .ref (ad 0)), (2, .ref (ad 30)), (3, .int (nI i))]) {σ : dk_S} (hR : Rel σ) (hP : va_P D vwCl (dk_W cI cZ cR ad σ) H) (hD : va_D (lawA s) (dk_W cI cZ cR ad σ)) (hS : va_S (lawA s) s.heap H locs)
    (next : ∀ (σ : dk_S) (H : Heap) (locs : List Loc), Rel σ → va_P D vwCl (dk_W cI cZ cR ad σ) H → va_D (lawA s) (dk_W cI cZ cR ad σ) → va_S (lawA s) s.heap H locs → W p l e room_1 s m #[Value.ref b] below meth c H locs 600000 7302250 Q (F0 m 547 ls [])) : W p l e room_1 s m #[Value.ref b] below meth c H locs 600000 7302250 Q (F0 m 251 ls []) := by
  have hT := t_solve  σ hR
  refine lv_aload_n hx hb dL_law_251 rfl (lv_at hl 1 rfl) ?_
  refine law_call (n := 0) (C := RX6) (k := 0) (D := D) (cI := cI) (cZ := cZ) (cR := cR) (ad := ad) hx hb hml hown hts hK hnst m_xsolve rfl (List.forall_mem_cons.mpr ⟨wsL_i9 (List.mem_of_getElem? (i := 23) rfl), List.forall_mem_cons.mpr ⟨wsL_i10 (List.mem_of_getElem? (i := 0) rfl), List.forall_mem_cons.mpr ⟨wsL_i10 (List.mem_of_getElem? (i := 1) rfl), List.forall_mem_cons.mpr ⟨wsL_i1 (List.mem_of_getElem? (i := 2) rfl), List.forall_mem_cons.mpr ⟨wsL_i10 (List.mem_of_getElem? (i := 2) rfl), fun _ h => absurd h List.not_mem_nil⟩⟩⟩⟩⟩) ⟨rfl, by decide, by decide, by decide +kernel⟩ ⟨⟨rfl, rfl⟩, by decide, by decide⟩ rfl rfl [] rfl (hT.1) hP hD hS hl.1 [] (Nat.le_of_ble_eq_true rfl) rfl dL_law_252 (fun v σ1 H locs hq hP hD hS => ?_)
  have hT2 := hT.2 v σ1 hq
  refine lv_aload_n hx hb dL_law_255 rfl (lv_at hl 2 rfl) ?_
  refine law_call (n := 0) (C := RX7) (k := 30) (D := D) (cI := cI) (cZ := cZ) (cR := cR) (ad := ad) hx hb hml hown hts hK hnst m_msolve rfl (List.forall_mem_cons.mpr ⟨wsL_i15 (List.mem_of_getElem? (i := 3) rfl), List.forall_mem_cons.mpr ⟨wsL_i15 (List.mem_of_getElem? (i := 4) rfl), List.forall_mem_cons.mpr ⟨wsL_i15 (List.mem_of_getElem? (i := 5) rfl), List.forall_mem_cons.mpr ⟨wsL_i1 (List.mem_of_getElem? (i := 5) rfl), List.forall_mem_cons.mpr ⟨wsL_i15 (List.mem_of_getElem? (i := 6) rfl), fun _ h => absurd h List.not_mem_nil⟩⟩⟩⟩⟩) ⟨rfl, by decide, by decide, by decide +kernel⟩ ⟨⟨rfl, rfl⟩, by decide, by decide⟩ rfl rfl [] rfl (hT2.1) hP hD hS hl.1 [.int v] (Nat.le_of_ble_eq_true rfl) rfl dL_law_256 (fun v2 σ2 H locs hq2 hP hD hS => ?_)
  have e := hT2.2 v2 σ2 hq2
  exact lv_icmp_eq (tgt := 547) hx hb dL_law_259 (by decide) (fun _ => next σ2 H locs e.2 hP hD hS) (fun q => absurd e.1.symm q)
set_option maxRecDepth 100000 in
set_option maxHeartbeats 4000000 in
theorem law_start (hx : p.tables.exec = Jvm.exec) (hb : c.code = code) (hml : c.maxLocals = 4) (hown : s.vm.findClass RL = some m.cls) (hts : ∀ w ∈ wsL_law, w.before #[Value.ref b] s = true) (hK : va_K D vwCl (dk_tys cI cZ cR) s) (hnst : dk_nest s) (hX : va_X b L xs s s.heap) (hbl : b < s.heap.size) (hL : L ≤ 2048) {H : Heap} {locs : List Loc} {ls : Array Slot} {i : Nat} (hi : i + 4 ≤ L) (hl : lv_has ls 4 [(0, .ref b), (1, .ref (ad 0)), (2, .ref (ad 30)), (3, .int (nI i))]) {σ : dk_S} (hR : Rel σ) (hP : va_P D vwCl (dk_W cI cZ cR ad σ) H) (hD : va_D (lawA s) (dk_W cI cZ cR ad σ)) (hS : va_S (lawA s) s.heap H locs)
    (next : ∀ (σ : dk_S) (H : Heap) (locs : List Loc), Rel σ → va_P D vwCl (dk_W cI cZ cR ad σ) H → va_D (lawA s) (dk_W cI cZ cR ad σ) → va_S (lawA s) s.heap H locs → W p l e room_1 s m #[Value.ref b] below meth c H locs 600000 7302250 Q (F0 m 547 ls [])) : W p l e room_1 s m #[Value.ref b] below meth c H locs 600000 7302250 Q (F0 m 264 ls []) := by
  have hT := t_start (xs (i + 1)) (xs (i + 2)) σ hR
  refine lv_aload_n hx hb dL_law_264 rfl (lv_at hl 1 rfl) ?_
  refine law_ld (ad := ad) (lv := []) hx hb hX hbl hL hS hl 1 (by decide) hi dL_law_265 dL_law_266 dL_law_267 rfl dL_law_268 dL_law_269 ?_
  refine law_ld (ad := ad) (lv := []) hx hb hX hbl hL hS hl 2 (by decide) hi dL_law_270 dL_law_271 dL_law_272 rfl dL_law_273 dL_law_274 ?_
  refine law_call (n := 2) (C := RX6) (k := 0) (D := D) (cI := cI) (cZ := cZ) (cR := cR) (ad := ad) hx hb hml hown hts hK hnst m_xstart rfl (List.forall_mem_cons.mpr ⟨wsL_i17 (List.mem_of_getElem? (i := 16) rfl), List.forall_mem_cons.mpr ⟨wsL_i17 (List.mem_of_getElem? (i := 17) rfl), List.forall_mem_cons.mpr ⟨wsL_i17 (List.mem_of_getElem? (i := 18) rfl), List.forall_mem_cons.mpr ⟨wsL_i1 (List.mem_of_getElem? (i := 2) rfl), List.forall_mem_cons.mpr ⟨wsL_i17 (List.mem_of_getElem? (i := 19) rfl), fun _ h => absurd h List.not_mem_nil⟩⟩⟩⟩⟩) ⟨rfl, by decide, by decide, by decide +kernel⟩ ⟨⟨rfl, rfl⟩, by decide, by decide⟩ rfl rfl [.inl (xs (i + 1)), .inl (xs (i + 2))] rfl (hT.1) hP hD hS hl.1 [] (Nat.le_of_ble_eq_true rfl) rfl dL_law_275 (fun v σ1 H locs hq hP hD hS => ?_)
  have hT2 := hT.2 v σ1 hq
  refine lv_aload_n hx hb dL_law_278 rfl (lv_at hl 2 rfl) ?_
  refine law_ld (ad := ad) (lv := []) hx hb hX hbl hL hS hl 1 (by decide) hi dL_law_279 dL_law_280 dL_law_281 rfl dL_law_282 dL_law_283 ?_
  refine law_ld (ad := ad) (lv := []) hx hb hX hbl hL hS hl 2 (by decide) hi dL_law_284 dL_law_285 dL_law_286 rfl dL_law_287 dL_law_288 ?_
  refine law_call (n := 2) (C := RX7) (k := 30) (D := D) (cI := cI) (cZ := cZ) (cR := cR) (ad := ad) hx hb hml hown hts hK hnst m_mstart rfl (List.forall_mem_cons.mpr ⟨wsL_i18 (List.mem_of_getElem? (i := 12) rfl), List.forall_mem_cons.mpr ⟨wsL_i18 (List.mem_of_getElem? (i := 13) rfl), List.forall_mem_cons.mpr ⟨wsL_i18 (List.mem_of_getElem? (i := 14) rfl), List.forall_mem_cons.mpr ⟨wsL_i1 (List.mem_of_getElem? (i := 5) rfl), List.forall_mem_cons.mpr ⟨wsL_i18 (List.mem_of_getElem? (i := 15) rfl), fun _ h => absurd h List.not_mem_nil⟩⟩⟩⟩⟩) ⟨rfl, by decide, by decide, by decide +kernel⟩ ⟨⟨rfl, rfl⟩, by decide, by decide⟩ rfl rfl [.inl (xs (i + 1)), .inl (xs (i + 2))] rfl (hT2.1) hP hD hS hl.1 [.int v] (Nat.le_of_ble_eq_true rfl) rfl dL_law_289 (fun v2 σ2 H locs hq2 hP hD hS => ?_)
  have e := hT2.2 v2 σ2 hq2
  exact lv_icmp_eq (tgt := 547) hx hb dL_law_292 (by decide) (fun _ => next σ2 H locs e.2 hP hD hS) (fun q => absurd e.1.symm q)
set_option maxRecDepth 100000 in
set_option maxHeartbeats 4000000 in
theorem law_length (hx : p.tables.exec = Jvm.exec) (hb : c.code = code) (hml : c.maxLocals = 4) (hown : s.vm.findClass RL = some m.cls) (hts : ∀ w ∈ wsL_law, w.before #[Value.ref b] s = true) (hK : va_K D vwCl (dk_tys cI cZ cR) s) (hnst : dk_nest s) (hX : va_X b L xs s s.heap) (hbl : b < s.heap.size) (hL : L ≤ 2048) {H : Heap} {locs : List Loc} {ls : Array Slot} {i : Nat} (hi : i + 4 ≤ L) (hl : lv_has ls 4 [(0, .ref b), (1, .ref (ad 0)), (2, .ref (ad 30)), (3, .int (nI i))]) {σ : dk_S} (hR : Rel σ) (hP : va_P D vwCl (dk_W cI cZ cR ad σ) H) (hD : va_D (lawA s) (dk_W cI cZ cR ad σ)) (hS : va_S (lawA s) s.heap H locs)
    (next : ∀ (σ : dk_S) (H : Heap) (locs : List Loc), Rel σ → va_P D vwCl (dk_W cI cZ cR ad σ) H → va_D (lawA s) (dk_W cI cZ cR ad σ) → va_S (lawA s) s.heap H locs → W p l e room_1 s m #[Value.ref b] below meth c H locs 600000 7302250 Q (F0 m 547 ls [])) : W p l e room_1 s m #[Value.ref b] below meth c H locs 600000 7302250 Q (F0 m 297 ls []) := by
  have hT := t_length  σ hR
  refine lv_aload_n hx hb dL_law_297 rfl (lv_at hl 1 rfl) ?_
  refine law_call (n := 0) (C := RX6) (k := 0) (D := D) (cI := cI) (cZ := cZ) (cR := cR) (ad := ad) hx hb hml hown hts hK hnst m_xlength rfl (List.forall_mem_cons.mpr ⟨wsL_i19 (List.mem_of_getElem? (i := 0) rfl), List.forall_mem_cons.mpr ⟨wsL_i19 (List.mem_of_getElem? (i := 1) rfl), List.forall_mem_cons.mpr ⟨wsL_i19 (List.mem_of_getElem? (i := 2) rfl), List.forall_mem_cons.mpr ⟨wsL_i1 (List.mem_of_getElem? (i := 2) rfl), List.forall_mem_cons.mpr ⟨wsL_i19 (List.mem_of_getElem? (i := 3) rfl), fun _ h => absurd h List.not_mem_nil⟩⟩⟩⟩⟩) ⟨rfl, by decide, by decide, by decide +kernel⟩ ⟨⟨rfl, rfl⟩, by decide, by decide⟩ rfl rfl [] rfl (hT.1) hP hD hS hl.1 [] (Nat.le_of_ble_eq_true rfl) rfl dL_law_298 (fun v σ1 H locs hq hP hD hS => ?_)
  have hT2 := hT.2 v σ1 hq
  refine lv_aload_n hx hb dL_law_301 rfl (lv_at hl 2 rfl) ?_
  refine law_call (n := 0) (C := RX7) (k := 30) (D := D) (cI := cI) (cZ := cZ) (cR := cR) (ad := ad) hx hb hml hown hts hK hnst m_mlength rfl (List.forall_mem_cons.mpr ⟨wsL_i19 (List.mem_of_getElem? (i := 5) rfl), List.forall_mem_cons.mpr ⟨wsL_i19 (List.mem_of_getElem? (i := 6) rfl), List.forall_mem_cons.mpr ⟨wsL_i19 (List.mem_of_getElem? (i := 7) rfl), List.forall_mem_cons.mpr ⟨wsL_i1 (List.mem_of_getElem? (i := 5) rfl), List.forall_mem_cons.mpr ⟨wsL_i19 (List.mem_of_getElem? (i := 8) rfl), fun _ h => absurd h List.not_mem_nil⟩⟩⟩⟩⟩) ⟨rfl, by decide, by decide, by decide +kernel⟩ ⟨⟨rfl, rfl⟩, by decide, by decide⟩ rfl rfl [] rfl (hT2.1) hP hD hS hl.1 [.int v] (Nat.le_of_ble_eq_true rfl) rfl dL_law_302 (fun v2 σ2 H locs hq2 hP hD hS => ?_)
  have e := hT2.2 v2 σ2 hq2
  exact lv_icmp_eq (tgt := 547) hx hb dL_law_305 (by decide) (fun _ => next σ2 H locs e.2 hP hD hS) (fun q => absurd e.1.symm q)
set_option maxRecDepth 100000 in
set_option maxHeartbeats 4000000 in
theorem law_row (hx : p.tables.exec = Jvm.exec) (hb : c.code = code) (hml : c.maxLocals = 4) (hown : s.vm.findClass RL = some m.cls) (hts : ∀ w ∈ wsL_law, w.before #[Value.ref b] s = true) (hK : va_K D vwCl (dk_tys cI cZ cR) s) (hnst : dk_nest s) (hX : va_X b L xs s s.heap) (hbl : b < s.heap.size) (hL : L ≤ 2048) {H : Heap} {locs : List Loc} {ls : Array Slot} {i : Nat} (hi : i + 4 ≤ L) (hl : lv_has ls 4 [(0, .ref b), (1, .ref (ad 0)), (2, .ref (ad 30)), (3, .int (nI i))]) {σ : dk_S} (hR : Rel σ) (hP : va_P D vwCl (dk_W cI cZ cR ad σ) H) (hD : va_D (lawA s) (dk_W cI cZ cR ad σ)) (hS : va_S (lawA s) s.heap H locs)
    (next : ∀ (σ : dk_S) (H : Heap) (locs : List Loc), Rel σ → va_P D vwCl (dk_W cI cZ cR ad σ) H → va_D (lawA s) (dk_W cI cZ cR ad σ) → va_S (lawA s) s.heap H locs → W p l e room_1 s m #[Value.ref b] below meth c H locs 600000 7302250 Q (F0 m 547 ls [])) : W p l e room_1 s m #[Value.ref b] below meth c H locs 600000 7302250 Q (F0 m 310 ls []) := by
  have hT := t_row (xs (i + 1)) (xs (i + 2)) σ hR
  refine lv_aload_n hx hb dL_law_310 rfl (lv_at hl 1 rfl) ?_
  refine law_ld (ad := ad) (lv := []) hx hb hX hbl hL hS hl 1 (by decide) hi dL_law_311 dL_law_312 dL_law_313 rfl dL_law_314 dL_law_315 ?_
  refine law_ld (ad := ad) (lv := []) hx hb hX hbl hL hS hl 2 (by decide) hi dL_law_316 dL_law_317 dL_law_318 rfl dL_law_319 dL_law_320 ?_
  refine law_call (n := 2) (C := RX6) (k := 0) (D := D) (cI := cI) (cZ := cZ) (cR := cR) (ad := ad) hx hb hml hown hts hK hnst m_xrow rfl (List.forall_mem_cons.mpr ⟨wsL_i19 (List.mem_of_getElem? (i := 9) rfl), List.forall_mem_cons.mpr ⟨wsL_i19 (List.mem_of_getElem? (i := 10) rfl), List.forall_mem_cons.mpr ⟨wsL_i19 (List.mem_of_getElem? (i := 11) rfl), List.forall_mem_cons.mpr ⟨wsL_i1 (List.mem_of_getElem? (i := 2) rfl), List.forall_mem_cons.mpr ⟨wsL_i19 (List.mem_of_getElem? (i := 12) rfl), fun _ h => absurd h List.not_mem_nil⟩⟩⟩⟩⟩) ⟨rfl, by decide, by decide, by decide +kernel⟩ ⟨⟨rfl, rfl⟩, by decide, by decide⟩ rfl rfl [.inl (xs (i + 1)), .inl (xs (i + 2))] rfl (hT.1) hP hD hS hl.1 [] (Nat.le_of_ble_eq_true rfl) rfl dL_law_321 (fun v σ1 H locs hq hP hD hS => ?_)
  have hT2 := hT.2 v σ1 hq
  refine lv_aload_n hx hb dL_law_324 rfl (lv_at hl 2 rfl) ?_
  refine law_ld (ad := ad) (lv := []) hx hb hX hbl hL hS hl 1 (by decide) hi dL_law_325 dL_law_326 dL_law_327 rfl dL_law_328 dL_law_329 ?_
  refine law_ld (ad := ad) (lv := []) hx hb hX hbl hL hS hl 2 (by decide) hi dL_law_330 dL_law_331 dL_law_332 rfl dL_law_333 dL_law_334 ?_
  refine law_call (n := 2) (C := RX7) (k := 30) (D := D) (cI := cI) (cZ := cZ) (cR := cR) (ad := ad) hx hb hml hown hts hK hnst m_mrow rfl (List.forall_mem_cons.mpr ⟨wsL_i19 (List.mem_of_getElem? (i := 21) rfl), List.forall_mem_cons.mpr ⟨wsL_i19 (List.mem_of_getElem? (i := 22) rfl), List.forall_mem_cons.mpr ⟨wsL_i19 (List.mem_of_getElem? (i := 23) rfl), List.forall_mem_cons.mpr ⟨wsL_i1 (List.mem_of_getElem? (i := 5) rfl), List.forall_mem_cons.mpr ⟨wsL_i20 (List.mem_of_getElem? (i := 0) rfl), fun _ h => absurd h List.not_mem_nil⟩⟩⟩⟩⟩) ⟨rfl, by decide, by decide, by decide +kernel⟩ ⟨⟨rfl, rfl⟩, by decide, by decide⟩ rfl rfl [.inl (xs (i + 1)), .inl (xs (i + 2))] rfl (hT2.1) hP hD hS hl.1 [.int v] (Nat.le_of_ble_eq_true rfl) rfl dL_law_335 (fun v2 σ2 H locs hq2 hP hD hS => ?_)
  have e := hT2.2 v2 σ2 hq2
  exact lv_icmp_eq (tgt := 547) hx hb dL_law_338 (by decide) (fun _ => next σ2 H locs e.2 hP hD hS) (fun q => absurd e.1.symm q)
set_option maxRecDepth 100000 in
set_option maxHeartbeats 4000000 in
theorem law_delay (hx : p.tables.exec = Jvm.exec) (hb : c.code = code) (hml : c.maxLocals = 4) (hown : s.vm.findClass RL = some m.cls) (hts : ∀ w ∈ wsL_law, w.before #[Value.ref b] s = true) (hK : va_K D vwCl (dk_tys cI cZ cR) s) (hnst : dk_nest s) (hX : va_X b L xs s s.heap) (hbl : b < s.heap.size) (hL : L ≤ 2048) {H : Heap} {locs : List Loc} {ls : Array Slot} {i : Nat} (hi : i + 4 ≤ L) (hl : lv_has ls 4 [(0, .ref b), (1, .ref (ad 0)), (2, .ref (ad 30)), (3, .int (nI i))]) {σ : dk_S} (hR : Rel σ) (hP : va_P D vwCl (dk_W cI cZ cR ad σ) H) (hD : va_D (lawA s) (dk_W cI cZ cR ad σ)) (hS : va_S (lawA s) s.heap H locs)
    (next : ∀ (σ : dk_S) (H : Heap) (locs : List Loc), Rel σ → va_P D vwCl (dk_W cI cZ cR ad σ) H → va_D (lawA s) (dk_W cI cZ cR ad σ) → va_S (lawA s) s.heap H locs → W p l e room_1 s m #[Value.ref b] below meth c H locs 600000 7302250 Q (F0 m 547 ls [])) : W p l e room_1 s m #[Value.ref b] below meth c H locs 600000 7302250 Q (F0 m 343 ls []) := by
  have hT := t_delay (xs (i + 1)) (xs (i + 2)) σ hR
  refine lv_aload_n hx hb dL_law_343 rfl (lv_at hl 1 rfl) ?_
  refine law_ld (ad := ad) (lv := []) hx hb hX hbl hL hS hl 1 (by decide) hi dL_law_344 dL_law_345 dL_law_346 rfl dL_law_347 dL_law_348 ?_
  refine law_ld (ad := ad) (lv := []) hx hb hX hbl hL hS hl 2 (by decide) hi dL_law_349 dL_law_350 dL_law_351 rfl dL_law_352 dL_law_353 ?_
  refine law_call (n := 2) (C := RX6) (k := 0) (D := D) (cI := cI) (cZ := cZ) (cR := cR) (ad := ad) hx hb hml hown hts hK hnst m_xdelay rfl (List.forall_mem_cons.mpr ⟨wsL_i20 (List.mem_of_getElem? (i := 1) rfl), List.forall_mem_cons.mpr ⟨wsL_i20 (List.mem_of_getElem? (i := 2) rfl), List.forall_mem_cons.mpr ⟨wsL_i20 (List.mem_of_getElem? (i := 3) rfl), List.forall_mem_cons.mpr ⟨wsL_i1 (List.mem_of_getElem? (i := 2) rfl), List.forall_mem_cons.mpr ⟨wsL_i20 (List.mem_of_getElem? (i := 4) rfl), fun _ h => absurd h List.not_mem_nil⟩⟩⟩⟩⟩) ⟨rfl, by decide, by decide, by decide +kernel⟩ ⟨⟨rfl, rfl⟩, by decide, by decide⟩ rfl rfl [.inl (xs (i + 1)), .inl (xs (i + 2))] rfl (hT.1) hP hD hS hl.1 [] (Nat.le_of_ble_eq_true rfl) rfl dL_law_354 (fun v σ1 H locs hq hP hD hS => ?_)
  have hT2 := hT.2 v σ1 hq
  refine lv_aload_n hx hb dL_law_357 rfl (lv_at hl 2 rfl) ?_
  refine law_ld (ad := ad) (lv := []) hx hb hX hbl hL hS hl 1 (by decide) hi dL_law_358 dL_law_359 dL_law_360 rfl dL_law_361 dL_law_362 ?_
  refine law_ld (ad := ad) (lv := []) hx hb hX hbl hL hS hl 2 (by decide) hi dL_law_363 dL_law_364 dL_law_365 rfl dL_law_366 dL_law_367 ?_
  refine law_call (n := 2) (C := RX7) (k := 30) (D := D) (cI := cI) (cZ := cZ) (cR := cR) (ad := ad) hx hb hml hown hts hK hnst m_mdelay rfl (List.forall_mem_cons.mpr ⟨wsL_i20 (List.mem_of_getElem? (i := 13) rfl), List.forall_mem_cons.mpr ⟨wsL_i20 (List.mem_of_getElem? (i := 14) rfl), List.forall_mem_cons.mpr ⟨wsL_i20 (List.mem_of_getElem? (i := 15) rfl), List.forall_mem_cons.mpr ⟨wsL_i1 (List.mem_of_getElem? (i := 5) rfl), List.forall_mem_cons.mpr ⟨wsL_i20 (List.mem_of_getElem? (i := 16) rfl), fun _ h => absurd h List.not_mem_nil⟩⟩⟩⟩⟩) ⟨rfl, by decide, by decide, by decide +kernel⟩ ⟨⟨rfl, rfl⟩, by decide, by decide⟩ rfl rfl [.inl (xs (i + 1)), .inl (xs (i + 2))] rfl (hT2.1) hP hD hS hl.1 [.int v] (Nat.le_of_ble_eq_true rfl) rfl dL_law_368 (fun v2 σ2 H locs hq2 hP hD hS => ?_)
  have e := hT2.2 v2 σ2 hq2
  exact lv_icmp_eq (tgt := 547) hx hb dL_law_371 (by decide) (fun _ => next σ2 H locs e.2 hP hD hS) (fun q => absurd e.1.symm q)
set_option maxRecDepth 100000 in
set_option maxHeartbeats 4000000 in
theorem law_busy (hx : p.tables.exec = Jvm.exec) (hb : c.code = code) (hml : c.maxLocals = 4) (hown : s.vm.findClass RL = some m.cls) (hts : ∀ w ∈ wsL_law, w.before #[Value.ref b] s = true) (hK : va_K D vwCl (dk_tys cI cZ cR) s) (hnst : dk_nest s) (hX : va_X b L xs s s.heap) (hbl : b < s.heap.size) (hL : L ≤ 2048) {H : Heap} {locs : List Loc} {ls : Array Slot} {i : Nat} (hi : i + 4 ≤ L) (hl : lv_has ls 4 [(0, .ref b), (1, .ref (ad 0)), (2, .ref (ad 30)), (3, .int (nI i))]) {σ : dk_S} (hR : Rel σ) (hP : va_P D vwCl (dk_W cI cZ cR ad σ) H) (hD : va_D (lawA s) (dk_W cI cZ cR ad σ)) (hS : va_S (lawA s) s.heap H locs)
    (next : ∀ (σ : dk_S) (H : Heap) (locs : List Loc), Rel σ → va_P D vwCl (dk_W cI cZ cR ad σ) H → va_D (lawA s) (dk_W cI cZ cR ad σ) → va_S (lawA s) s.heap H locs → W p l e room_1 s m #[Value.ref b] below meth c H locs 600000 7302250 Q (F0 m 547 ls [])) : W p l e room_1 s m #[Value.ref b] below meth c H locs 600000 7302250 Q (F0 m 376 ls []) := by
  have hT := t_busy (xs (i + 1)) σ hR
  refine lv_aload_n hx hb dL_law_376 rfl (lv_at hl 1 rfl) ?_
  refine law_ld (ad := ad) (lv := []) hx hb hX hbl hL hS hl 1 (by decide) hi dL_law_377 dL_law_378 dL_law_379 rfl dL_law_380 dL_law_381 ?_
  refine law_call (n := 1) (C := RX6) (k := 0) (D := D) (cI := cI) (cZ := cZ) (cR := cR) (ad := ad) hx hb hml hown hts hK hnst m_xbusy rfl (List.forall_mem_cons.mpr ⟨wsL_i20 (List.mem_of_getElem? (i := 17) rfl), List.forall_mem_cons.mpr ⟨wsL_i20 (List.mem_of_getElem? (i := 18) rfl), List.forall_mem_cons.mpr ⟨wsL_i20 (List.mem_of_getElem? (i := 19) rfl), List.forall_mem_cons.mpr ⟨wsL_i1 (List.mem_of_getElem? (i := 2) rfl), List.forall_mem_cons.mpr ⟨wsL_i20 (List.mem_of_getElem? (i := 20) rfl), fun _ h => absurd h List.not_mem_nil⟩⟩⟩⟩⟩) ⟨rfl, by decide, by decide, by decide +kernel⟩ ⟨⟨rfl, rfl⟩, by decide, by decide⟩ rfl rfl [.inl (xs (i + 1))] rfl (hT.1) hP hD hS hl.1 [] (Nat.le_of_ble_eq_true rfl) rfl dL_law_382 (fun v σ1 H locs hq hP hD hS => ?_)
  have hT2 := hT.2 v σ1 hq
  refine lv_aload_n hx hb dL_law_385 rfl (lv_at hl 2 rfl) ?_
  refine law_ld (ad := ad) (lv := []) hx hb hX hbl hL hS hl 1 (by decide) hi dL_law_386 dL_law_387 dL_law_388 rfl dL_law_389 dL_law_390 ?_
  refine law_call (n := 1) (C := RX7) (k := 30) (D := D) (cI := cI) (cZ := cZ) (cR := cR) (ad := ad) hx hb hml hown hts hK hnst m_mbusy rfl (List.forall_mem_cons.mpr ⟨wsL_i21 (List.mem_of_getElem? (i := 8) rfl), List.forall_mem_cons.mpr ⟨wsL_i21 (List.mem_of_getElem? (i := 9) rfl), List.forall_mem_cons.mpr ⟨wsL_i21 (List.mem_of_getElem? (i := 10) rfl), List.forall_mem_cons.mpr ⟨wsL_i1 (List.mem_of_getElem? (i := 5) rfl), List.forall_mem_cons.mpr ⟨wsL_i21 (List.mem_of_getElem? (i := 11) rfl), fun _ h => absurd h List.not_mem_nil⟩⟩⟩⟩⟩) ⟨rfl, by decide, by decide, by decide +kernel⟩ ⟨⟨rfl, rfl⟩, by decide, by decide⟩ rfl rfl [.inl (xs (i + 1))] rfl (hT2.1) hP hD hS hl.1 [.int v] (Nat.le_of_ble_eq_true rfl) rfl dL_law_391 (fun v2 σ2 H locs hq2 hP hD hS => ?_)
  have e := hT2.2 v2 σ2 hq2
  exact lv_icmp_eq (tgt := 547) hx hb dL_law_394 (by decide) (fun _ => next σ2 H locs e.2 hP hD hS) (fun q => absurd e.1.symm q)
set_option maxRecDepth 100000 in
set_option maxHeartbeats 4000000 in
theorem law_peak (hx : p.tables.exec = Jvm.exec) (hb : c.code = code) (hml : c.maxLocals = 4) (hown : s.vm.findClass RL = some m.cls) (hts : ∀ w ∈ wsL_law, w.before #[Value.ref b] s = true) (hK : va_K D vwCl (dk_tys cI cZ cR) s) (hnst : dk_nest s) (hX : va_X b L xs s s.heap) (hbl : b < s.heap.size) (hL : L ≤ 2048) {H : Heap} {locs : List Loc} {ls : Array Slot} {i : Nat} (hi : i + 4 ≤ L) (hl : lv_has ls 4 [(0, .ref b), (1, .ref (ad 0)), (2, .ref (ad 30)), (3, .int (nI i))]) {σ : dk_S} (hR : Rel σ) (hP : va_P D vwCl (dk_W cI cZ cR ad σ) H) (hD : va_D (lawA s) (dk_W cI cZ cR ad σ)) (hS : va_S (lawA s) s.heap H locs)
    (next : ∀ (σ : dk_S) (H : Heap) (locs : List Loc), Rel σ → va_P D vwCl (dk_W cI cZ cR ad σ) H → va_D (lawA s) (dk_W cI cZ cR ad σ) → va_S (lawA s) s.heap H locs → W p l e room_1 s m #[Value.ref b] below meth c H locs 600000 7302250 Q (F0 m 547 ls [])) : W p l e room_1 s m #[Value.ref b] below meth c H locs 600000 7302250 Q (F0 m 399 ls []) := by
  have hT := t_peak (xs (i + 1)) σ hR
  refine lv_aload_n hx hb dL_law_399 rfl (lv_at hl 1 rfl) ?_
  refine law_ld (ad := ad) (lv := []) hx hb hX hbl hL hS hl 1 (by decide) hi dL_law_400 dL_law_401 dL_law_402 rfl dL_law_403 dL_law_404 ?_
  refine law_call (n := 1) (C := RX6) (k := 0) (D := D) (cI := cI) (cZ := cZ) (cR := cR) (ad := ad) hx hb hml hown hts hK hnst m_xpeak rfl (List.forall_mem_cons.mpr ⟨wsL_i21 (List.mem_of_getElem? (i := 20) rfl), List.forall_mem_cons.mpr ⟨wsL_i21 (List.mem_of_getElem? (i := 21) rfl), List.forall_mem_cons.mpr ⟨wsL_i21 (List.mem_of_getElem? (i := 22) rfl), List.forall_mem_cons.mpr ⟨wsL_i1 (List.mem_of_getElem? (i := 2) rfl), List.forall_mem_cons.mpr ⟨wsL_i21 (List.mem_of_getElem? (i := 23) rfl), fun _ h => absurd h List.not_mem_nil⟩⟩⟩⟩⟩) ⟨rfl, by decide, by decide, by decide +kernel⟩ ⟨⟨rfl, rfl⟩, by decide, by decide⟩ rfl rfl [.inl (xs (i + 1))] rfl (hT.1) hP hD hS hl.1 [] (Nat.le_of_ble_eq_true rfl) rfl dL_law_405 (fun v σ1 H locs hq hP hD hS => ?_)
  have hT2 := hT.2 v σ1 hq
  refine lv_aload_n hx hb dL_law_408 rfl (lv_at hl 2 rfl) ?_
  refine law_ld (ad := ad) (lv := []) hx hb hX hbl hL hS hl 1 (by decide) hi dL_law_409 dL_law_410 dL_law_411 rfl dL_law_412 dL_law_413 ?_
  refine law_call (n := 1) (C := RX7) (k := 30) (D := D) (cI := cI) (cZ := cZ) (cR := cR) (ad := ad) hx hb hml hown hts hK hnst m_mpeak rfl (List.forall_mem_cons.mpr ⟨wsL_i22 (List.mem_of_getElem? (i := 6) rfl), List.forall_mem_cons.mpr ⟨wsL_i22 (List.mem_of_getElem? (i := 7) rfl), List.forall_mem_cons.mpr ⟨wsL_i22 (List.mem_of_getElem? (i := 8) rfl), List.forall_mem_cons.mpr ⟨wsL_i1 (List.mem_of_getElem? (i := 5) rfl), List.forall_mem_cons.mpr ⟨wsL_i22 (List.mem_of_getElem? (i := 9) rfl), fun _ h => absurd h List.not_mem_nil⟩⟩⟩⟩⟩) ⟨rfl, by decide, by decide, by decide +kernel⟩ ⟨⟨rfl, rfl⟩, by decide, by decide⟩ rfl rfl [.inl (xs (i + 1))] rfl (hT2.1) hP hD hS hl.1 [.int v] (Nat.le_of_ble_eq_true rfl) rfl dL_law_414 (fun v2 σ2 H locs hq2 hP hD hS => ?_)
  have e := hT2.2 v2 σ2 hq2
  exact lv_icmp_eq (tgt := 547) hx hb dL_law_417 (by decide) (fun _ => next σ2 H locs e.2 hP hD hS) (fun q => absurd e.1.symm q)
set_option maxRecDepth 100000 in
set_option maxHeartbeats 4000000 in
theorem law_assign (hx : p.tables.exec = Jvm.exec) (hb : c.code = code) (hml : c.maxLocals = 4) (hown : s.vm.findClass RL = some m.cls) (hts : ∀ w ∈ wsL_law, w.before #[Value.ref b] s = true) (hK : va_K D vwCl (dk_tys cI cZ cR) s) (hnst : dk_nest s) (hX : va_X b L xs s s.heap) (hbl : b < s.heap.size) (hL : L ≤ 2048) {H : Heap} {locs : List Loc} {ls : Array Slot} {i : Nat} (hi : i + 4 ≤ L) (hl : lv_has ls 4 [(0, .ref b), (1, .ref (ad 0)), (2, .ref (ad 30)), (3, .int (nI i))]) {σ : dk_S} (hR : Rel σ) (hP : va_P D vwCl (dk_W cI cZ cR ad σ) H) (hD : va_D (lawA s) (dk_W cI cZ cR ad σ)) (hS : va_S (lawA s) s.heap H locs)
    (next : ∀ (σ : dk_S) (H : Heap) (locs : List Loc), Rel σ → va_P D vwCl (dk_W cI cZ cR ad σ) H → va_D (lawA s) (dk_W cI cZ cR ad σ) → va_S (lawA s) s.heap H locs → W p l e room_1 s m #[Value.ref b] below meth c H locs 600000 7302250 Q (F0 m 547 ls [])) : W p l e room_1 s m #[Value.ref b] below meth c H locs 600000 7302250 Q (F0 m 422 ls []) := by
  have hT := t_assign (xs (i + 1)) σ hR
  refine lv_aload_n hx hb dL_law_422 rfl (lv_at hl 1 rfl) ?_
  refine law_ld (ad := ad) (lv := []) hx hb hX hbl hL hS hl 1 (by decide) hi dL_law_423 dL_law_424 dL_law_425 rfl dL_law_426 dL_law_427 ?_
  refine law_call (n := 1) (C := RX6) (k := 0) (D := D) (cI := cI) (cZ := cZ) (cR := cR) (ad := ad) hx hb hml hown hts hK hnst m_xassign rfl (List.forall_mem_cons.mpr ⟨wsL_i22 (List.mem_of_getElem? (i := 10) rfl), List.forall_mem_cons.mpr ⟨wsL_i22 (List.mem_of_getElem? (i := 11) rfl), List.forall_mem_cons.mpr ⟨wsL_i22 (List.mem_of_getElem? (i := 12) rfl), List.forall_mem_cons.mpr ⟨wsL_i1 (List.mem_of_getElem? (i := 2) rfl), List.forall_mem_cons.mpr ⟨wsL_i22 (List.mem_of_getElem? (i := 13) rfl), fun _ h => absurd h List.not_mem_nil⟩⟩⟩⟩⟩) ⟨rfl, by decide, by decide, by decide +kernel⟩ ⟨⟨rfl, rfl⟩, by decide, by decide⟩ rfl rfl [.inl (xs (i + 1))] rfl (hT.1) hP hD hS hl.1 [] (Nat.le_of_ble_eq_true rfl) rfl dL_law_428 (fun v σ1 H locs hq hP hD hS => ?_)
  have hT2 := hT.2 v σ1 hq
  refine lv_aload_n hx hb dL_law_431 rfl (lv_at hl 2 rfl) ?_
  refine law_ld (ad := ad) (lv := []) hx hb hX hbl hL hS hl 1 (by decide) hi dL_law_432 dL_law_433 dL_law_434 rfl dL_law_435 dL_law_436 ?_
  refine law_call (n := 1) (C := RX7) (k := 30) (D := D) (cI := cI) (cZ := cZ) (cR := cR) (ad := ad) hx hb hml hown hts hK hnst m_massign rfl (List.forall_mem_cons.mpr ⟨wsL_i24 (List.mem_of_getElem? (i := 12) rfl), List.forall_mem_cons.mpr ⟨wsL_i24 (List.mem_of_getElem? (i := 13) rfl), List.forall_mem_cons.mpr ⟨wsL_i24 (List.mem_of_getElem? (i := 14) rfl), List.forall_mem_cons.mpr ⟨wsL_i1 (List.mem_of_getElem? (i := 5) rfl), List.forall_mem_cons.mpr ⟨wsL_i24 (List.mem_of_getElem? (i := 15) rfl), fun _ h => absurd h List.not_mem_nil⟩⟩⟩⟩⟩) ⟨rfl, by decide, by decide, by decide +kernel⟩ ⟨⟨rfl, rfl⟩, by decide, by decide⟩ rfl rfl [.inl (xs (i + 1))] rfl (hT2.1) hP hD hS hl.1 [.int v] (Nat.le_of_ble_eq_true rfl) rfl dL_law_437 (fun v2 σ2 H locs hq2 hP hD hS => ?_)
  have e := hT2.2 v2 σ2 hq2
  exact lv_icmp_eq (tgt := 547) hx hb dL_law_440 (by decide) (fun _ => next σ2 H locs e.2 hP hD hS) (fun q => absurd e.1.symm q)
set_option maxRecDepth 100000 in
set_option maxHeartbeats 4000000 in
theorem law_workerOf (hx : p.tables.exec = Jvm.exec) (hb : c.code = code) (hml : c.maxLocals = 4) (hown : s.vm.findClass RL = some m.cls) (hts : ∀ w ∈ wsL_law, w.before #[Value.ref b] s = true) (hK : va_K D vwCl (dk_tys cI cZ cR) s) (hnst : dk_nest s) (hX : va_X b L xs s s.heap) (hbl : b < s.heap.size) (hL : L ≤ 2048) {H : Heap} {locs : List Loc} {ls : Array Slot} {i : Nat} (hi : i + 4 ≤ L) (hl : lv_has ls 4 [(0, .ref b), (1, .ref (ad 0)), (2, .ref (ad 30)), (3, .int (nI i))]) {σ : dk_S} (hR : Rel σ) (hP : va_P D vwCl (dk_W cI cZ cR ad σ) H) (hD : va_D (lawA s) (dk_W cI cZ cR ad σ)) (hS : va_S (lawA s) s.heap H locs)
    (next : ∀ (σ : dk_S) (H : Heap) (locs : List Loc), Rel σ → va_P D vwCl (dk_W cI cZ cR ad σ) H → va_D (lawA s) (dk_W cI cZ cR ad σ) → va_S (lawA s) s.heap H locs → W p l e room_1 s m #[Value.ref b] below meth c H locs 600000 7302250 Q (F0 m 547 ls [])) : W p l e room_1 s m #[Value.ref b] below meth c H locs 600000 7302250 Q (F0 m 445 ls []) := by
  have hT := t_workerOf (xs (i + 1)) σ hR
  refine lv_aload_n hx hb dL_law_445 rfl (lv_at hl 1 rfl) ?_
  refine law_ld (ad := ad) (lv := []) hx hb hX hbl hL hS hl 1 (by decide) hi dL_law_446 dL_law_447 dL_law_448 rfl dL_law_449 dL_law_450 ?_
  refine law_call (n := 1) (C := RX6) (k := 0) (D := D) (cI := cI) (cZ := cZ) (cR := cR) (ad := ad) hx hb hml hown hts hK hnst m_xworkerOf rfl (List.forall_mem_cons.mpr ⟨wsL_i25 (List.mem_of_getElem? (i := 10) rfl), List.forall_mem_cons.mpr ⟨wsL_i25 (List.mem_of_getElem? (i := 11) rfl), List.forall_mem_cons.mpr ⟨wsL_i25 (List.mem_of_getElem? (i := 12) rfl), List.forall_mem_cons.mpr ⟨wsL_i1 (List.mem_of_getElem? (i := 2) rfl), List.forall_mem_cons.mpr ⟨wsL_i25 (List.mem_of_getElem? (i := 13) rfl), fun _ h => absurd h List.not_mem_nil⟩⟩⟩⟩⟩) ⟨rfl, by decide, by decide, by decide +kernel⟩ ⟨⟨rfl, rfl⟩, by decide, by decide⟩ rfl rfl [.inl (xs (i + 1))] rfl (hT.1) hP hD hS hl.1 [] (Nat.le_of_ble_eq_true rfl) rfl dL_law_451 (fun v σ1 H locs hq hP hD hS => ?_)
  have hT2 := hT.2 v σ1 hq
  refine lv_aload_n hx hb dL_law_454 rfl (lv_at hl 2 rfl) ?_
  refine law_ld (ad := ad) (lv := []) hx hb hX hbl hL hS hl 1 (by decide) hi dL_law_455 dL_law_456 dL_law_457 rfl dL_law_458 dL_law_459 ?_
  refine law_call (n := 1) (C := RX7) (k := 30) (D := D) (cI := cI) (cZ := cZ) (cR := cR) (ad := ad) hx hb hml hown hts hK hnst m_mworkerOf rfl (List.forall_mem_cons.mpr ⟨wsL_i25 (List.mem_of_getElem? (i := 15) rfl), List.forall_mem_cons.mpr ⟨wsL_i25 (List.mem_of_getElem? (i := 16) rfl), List.forall_mem_cons.mpr ⟨wsL_i25 (List.mem_of_getElem? (i := 17) rfl), List.forall_mem_cons.mpr ⟨wsL_i1 (List.mem_of_getElem? (i := 5) rfl), List.forall_mem_cons.mpr ⟨wsL_i25 (List.mem_of_getElem? (i := 18) rfl), fun _ h => absurd h List.not_mem_nil⟩⟩⟩⟩⟩) ⟨rfl, by decide, by decide, by decide +kernel⟩ ⟨⟨rfl, rfl⟩, by decide, by decide⟩ rfl rfl [.inl (xs (i + 1))] rfl (hT2.1) hP hD hS hl.1 [.int v] (Nat.le_of_ble_eq_true rfl) rfl dL_law_460 (fun v2 σ2 H locs hq2 hP hD hS => ?_)
  have e := hT2.2 v2 σ2 hq2
  exact lv_icmp_eq (tgt := 547) hx hb dL_law_463 (by decide) (fun _ => next σ2 H locs e.2 hP hD hS) (fun q => absurd e.1.symm q)
set_option maxRecDepth 100000 in
set_option maxHeartbeats 4000000 in
theorem law_cover (hx : p.tables.exec = Jvm.exec) (hb : c.code = code) (hml : c.maxLocals = 4) (hown : s.vm.findClass RL = some m.cls) (hts : ∀ w ∈ wsL_law, w.before #[Value.ref b] s = true) (hK : va_K D vwCl (dk_tys cI cZ cR) s) (hnst : dk_nest s) (hX : va_X b L xs s s.heap) (hbl : b < s.heap.size) (hL : L ≤ 2048) {H : Heap} {locs : List Loc} {ls : Array Slot} {i : Nat} (hi : i + 4 ≤ L) (hl : lv_has ls 4 [(0, .ref b), (1, .ref (ad 0)), (2, .ref (ad 30)), (3, .int (nI i))]) {σ : dk_S} (hR : Rel σ) (hP : va_P D vwCl (dk_W cI cZ cR ad σ) H) (hD : va_D (lawA s) (dk_W cI cZ cR ad σ)) (hS : va_S (lawA s) s.heap H locs)
    (next : ∀ (σ : dk_S) (H : Heap) (locs : List Loc), Rel σ → va_P D vwCl (dk_W cI cZ cR ad σ) H → va_D (lawA s) (dk_W cI cZ cR ad σ) → va_S (lawA s) s.heap H locs → W p l e room_1 s m #[Value.ref b] below meth c H locs 600000 7302250 Q (F0 m 547 ls [])) : W p l e room_1 s m #[Value.ref b] below meth c H locs 600000 7302250 Q (F0 m 468 ls []) := by
  have hT := t_cover (xs (i + 1)) (xs (i + 2)) σ hR
  refine lv_aload_n hx hb dL_law_468 rfl (lv_at hl 1 rfl) ?_
  refine law_ld (ad := ad) (lv := []) hx hb hX hbl hL hS hl 1 (by decide) hi dL_law_469 dL_law_470 dL_law_471 rfl dL_law_472 dL_law_473 ?_
  refine law_ld (ad := ad) (lv := []) hx hb hX hbl hL hS hl 2 (by decide) hi dL_law_474 dL_law_475 dL_law_476 rfl dL_law_477 dL_law_478 ?_
  refine law_call (n := 2) (C := RX6) (k := 0) (D := D) (cI := cI) (cZ := cZ) (cR := cR) (ad := ad) hx hb hml hown hts hK hnst m_xcover rfl (List.forall_mem_cons.mpr ⟨wsL_i25 (List.mem_of_getElem? (i := 19) rfl), List.forall_mem_cons.mpr ⟨wsL_i25 (List.mem_of_getElem? (i := 20) rfl), List.forall_mem_cons.mpr ⟨wsL_i25 (List.mem_of_getElem? (i := 21) rfl), List.forall_mem_cons.mpr ⟨wsL_i1 (List.mem_of_getElem? (i := 2) rfl), List.forall_mem_cons.mpr ⟨wsL_i25 (List.mem_of_getElem? (i := 22) rfl), fun _ h => absurd h List.not_mem_nil⟩⟩⟩⟩⟩) ⟨rfl, by decide, by decide, by decide +kernel⟩ ⟨⟨rfl, rfl⟩, by decide, by decide⟩ rfl rfl [.inl (xs (i + 1)), .inl (xs (i + 2))] rfl (hT.1) hP hD hS hl.1 [] (Nat.le_of_ble_eq_true rfl) rfl dL_law_479 (fun v σ1 H locs hq hP hD hS => ?_)
  have hT2 := hT.2 v σ1 hq
  refine lv_aload_n hx hb dL_law_482 rfl (lv_at hl 2 rfl) ?_
  refine law_ld (ad := ad) (lv := []) hx hb hX hbl hL hS hl 1 (by decide) hi dL_law_483 dL_law_484 dL_law_485 rfl dL_law_486 dL_law_487 ?_
  refine law_ld (ad := ad) (lv := []) hx hb hX hbl hL hS hl 2 (by decide) hi dL_law_488 dL_law_489 dL_law_490 rfl dL_law_491 dL_law_492 ?_
  refine law_call (n := 2) (C := RX7) (k := 30) (D := D) (cI := cI) (cZ := cZ) (cR := cR) (ad := ad) hx hb hml hown hts hK hnst m_mcover rfl (List.forall_mem_cons.mpr ⟨wsL_i26 (List.mem_of_getElem? (i := 2) rfl), List.forall_mem_cons.mpr ⟨wsL_i26 (List.mem_of_getElem? (i := 3) rfl), List.forall_mem_cons.mpr ⟨wsL_i26 (List.mem_of_getElem? (i := 4) rfl), List.forall_mem_cons.mpr ⟨wsL_i1 (List.mem_of_getElem? (i := 5) rfl), List.forall_mem_cons.mpr ⟨wsL_i26 (List.mem_of_getElem? (i := 5) rfl), fun _ h => absurd h List.not_mem_nil⟩⟩⟩⟩⟩) ⟨rfl, by decide, by decide, by decide +kernel⟩ ⟨⟨rfl, rfl⟩, by decide, by decide⟩ rfl rfl [.inl (xs (i + 1)), .inl (xs (i + 2))] rfl (hT2.1) hP hD hS hl.1 [.int v] (Nat.le_of_ble_eq_true rfl) rfl dL_law_493 (fun v2 σ2 H locs hq2 hP hD hS => ?_)
  have e := hT2.2 v2 σ2 hq2
  exact lv_icmp_eq (tgt := 547) hx hb dL_law_496 (by decide) (fun _ => next σ2 H locs e.2 hP hD hS) (fun q => absurd e.1.symm q)
set_option maxRecDepth 100000 in
set_option maxHeartbeats 4000000 in
theorem law_check (hx : p.tables.exec = Jvm.exec) (hb : c.code = code) (hml : c.maxLocals = 4) (hown : s.vm.findClass RL = some m.cls) (hts : ∀ w ∈ wsL_law, w.before #[Value.ref b] s = true) (hK : va_K D vwCl (dk_tys cI cZ cR) s) (hnst : dk_nest s) (hX : va_X b L xs s s.heap) (hbl : b < s.heap.size) (hL : L ≤ 2048) {H : Heap} {locs : List Loc} {ls : Array Slot} {i : Nat} (hi : i + 4 ≤ L) (hl : lv_has ls 4 [(0, .ref b), (1, .ref (ad 0)), (2, .ref (ad 30)), (3, .int (nI i))]) {σ : dk_S} (hR : Rel σ) (hP : va_P D vwCl (dk_W cI cZ cR ad σ) H) (hD : va_D (lawA s) (dk_W cI cZ cR ad σ)) (hS : va_S (lawA s) s.heap H locs)
    (next : ∀ (σ : dk_S) (H : Heap) (locs : List Loc), Rel σ → va_P D vwCl (dk_W cI cZ cR ad σ) H → va_D (lawA s) (dk_W cI cZ cR ad σ) → va_S (lawA s) s.heap H locs → W p l e room_1 s m #[Value.ref b] below meth c H locs 600000 7302250 Q (F0 m 547 ls [])) : W p l e room_1 s m #[Value.ref b] below meth c H locs 600000 7302250 Q (F0 m 501 ls []) := by
  have hT := t_check (xs (i + 1)) σ hR
  refine lv_aload_n hx hb dL_law_501 rfl (lv_at hl 1 rfl) ?_
  refine law_ld (ad := ad) (lv := []) hx hb hX hbl hL hS hl 1 (by decide) hi dL_law_502 dL_law_503 dL_law_504 rfl dL_law_505 dL_law_506 ?_
  refine law_call (n := 1) (C := RX6) (k := 0) (D := D) (cI := cI) (cZ := cZ) (cR := cR) (ad := ad) hx hb hml hown hts hK hnst m_xcheck rfl (List.forall_mem_cons.mpr ⟨wsL_i26 (List.mem_of_getElem? (i := 6) rfl), List.forall_mem_cons.mpr ⟨wsL_i26 (List.mem_of_getElem? (i := 7) rfl), List.forall_mem_cons.mpr ⟨wsL_i26 (List.mem_of_getElem? (i := 8) rfl), List.forall_mem_cons.mpr ⟨wsL_i1 (List.mem_of_getElem? (i := 2) rfl), List.forall_mem_cons.mpr ⟨wsL_i26 (List.mem_of_getElem? (i := 9) rfl), fun _ h => absurd h List.not_mem_nil⟩⟩⟩⟩⟩) ⟨rfl, by decide, by decide, by decide +kernel⟩ ⟨⟨rfl, rfl⟩, by decide, by decide⟩ rfl rfl [.inl (xs (i + 1))] rfl (hT.1) hP hD hS hl.1 [] (Nat.le_of_ble_eq_true rfl) rfl dL_law_507 (fun v σ1 H locs hq hP hD hS => ?_)
  have hT2 := hT.2 v σ1 hq
  refine lv_aload_n hx hb dL_law_510 rfl (lv_at hl 2 rfl) ?_
  refine law_ld (ad := ad) (lv := []) hx hb hX hbl hL hS hl 1 (by decide) hi dL_law_511 dL_law_512 dL_law_513 rfl dL_law_514 dL_law_515 ?_
  refine law_call (n := 1) (C := RX7) (k := 30) (D := D) (cI := cI) (cZ := cZ) (cR := cR) (ad := ad) hx hb hml hown hts hK hnst m_mcheck rfl (List.forall_mem_cons.mpr ⟨wsL_i27 (List.mem_of_getElem? (i := 3) rfl), List.forall_mem_cons.mpr ⟨wsL_i27 (List.mem_of_getElem? (i := 4) rfl), List.forall_mem_cons.mpr ⟨wsL_i27 (List.mem_of_getElem? (i := 5) rfl), List.forall_mem_cons.mpr ⟨wsL_i1 (List.mem_of_getElem? (i := 5) rfl), List.forall_mem_cons.mpr ⟨wsL_i27 (List.mem_of_getElem? (i := 6) rfl), fun _ h => absurd h List.not_mem_nil⟩⟩⟩⟩⟩) ⟨rfl, by decide, by decide, by decide +kernel⟩ ⟨⟨rfl, rfl⟩, by decide, by decide⟩ rfl rfl [.inl (xs (i + 1))] rfl (hT2.1) hP hD hS hl.1 [.int v] (Nat.le_of_ble_eq_true rfl) rfl dL_law_516 (fun v2 σ2 H locs hq2 hP hD hS => ?_)
  have e := hT2.2 v2 σ2 hq2
  exact lv_icmp_eq (tgt := 547) hx hb dL_law_519 (by decide) (fun _ => next σ2 H locs e.2 hP hD hS) (fun q => absurd e.1.symm q)
set_option maxRecDepth 100000 in
set_option maxHeartbeats 4000000 in
theorem law_count (hx : p.tables.exec = Jvm.exec) (hb : c.code = code) (hml : c.maxLocals = 4) (hown : s.vm.findClass RL = some m.cls) (hts : ∀ w ∈ wsL_law, w.before #[Value.ref b] s = true) (hK : va_K D vwCl (dk_tys cI cZ cR) s) (hnst : dk_nest s) (hX : va_X b L xs s s.heap) (hbl : b < s.heap.size) (hL : L ≤ 2048) {H : Heap} {locs : List Loc} {ls : Array Slot} {i : Nat} (hi : i + 4 ≤ L) (hl : lv_has ls 4 [(0, .ref b), (1, .ref (ad 0)), (2, .ref (ad 30)), (3, .int (nI i))]) {σ : dk_S} (hR : Rel σ) (hP : va_P D vwCl (dk_W cI cZ cR ad σ) H) (hD : va_D (lawA s) (dk_W cI cZ cR ad σ)) (hS : va_S (lawA s) s.heap H locs)
    (next : ∀ (σ : dk_S) (H : Heap) (locs : List Loc), Rel σ → va_P D vwCl (dk_W cI cZ cR ad σ) H → va_D (lawA s) (dk_W cI cZ cR ad σ) → va_S (lawA s) s.heap H locs → W p l e room_1 s m #[Value.ref b] below meth c H locs 600000 7302250 Q (F0 m 547 ls [])) : W p l e room_1 s m #[Value.ref b] below meth c H locs 600000 7302250 Q (F0 m 524 ls []) := by
  have hT := t_count (xs (i + 1)) σ hR
  refine lv_aload_n hx hb dL_law_524 rfl (lv_at hl 1 rfl) ?_
  refine law_ld (ad := ad) (lv := []) hx hb hX hbl hL hS hl 1 (by decide) hi dL_law_525 dL_law_526 dL_law_527 rfl dL_law_528 dL_law_529 ?_
  refine law_call (n := 1) (C := RX6) (k := 0) (D := D) (cI := cI) (cZ := cZ) (cR := cR) (ad := ad) hx hb hml hown hts hK hnst m_xcount rfl (List.forall_mem_cons.mpr ⟨wsL_i27 (List.mem_of_getElem? (i := 19) rfl), List.forall_mem_cons.mpr ⟨wsL_i27 (List.mem_of_getElem? (i := 20) rfl), List.forall_mem_cons.mpr ⟨wsL_i27 (List.mem_of_getElem? (i := 21) rfl), List.forall_mem_cons.mpr ⟨wsL_i1 (List.mem_of_getElem? (i := 2) rfl), List.forall_mem_cons.mpr ⟨wsL_i27 (List.mem_of_getElem? (i := 22) rfl), fun _ h => absurd h List.not_mem_nil⟩⟩⟩⟩⟩) ⟨rfl, by decide, by decide, by decide +kernel⟩ ⟨⟨rfl, rfl⟩, by decide, by decide⟩ rfl rfl [.inl (xs (i + 1))] rfl (hT.1) hP hD hS hl.1 [] (Nat.le_of_ble_eq_true rfl) rfl dL_law_530 (fun v σ1 H locs hq hP hD hS => ?_)
  have hT2 := hT.2 v σ1 hq
  refine lv_aload_n hx hb dL_law_533 rfl (lv_at hl 2 rfl) ?_
  refine law_ld (ad := ad) (lv := []) hx hb hX hbl hL hS hl 1 (by decide) hi dL_law_534 dL_law_535 dL_law_536 rfl dL_law_537 dL_law_538 ?_
  refine law_call (n := 1) (C := RX7) (k := 30) (D := D) (cI := cI) (cZ := cZ) (cR := cR) (ad := ad) hx hb hml hown hts hK hnst m_mcount rfl (List.forall_mem_cons.mpr ⟨wsL_i28 (List.mem_of_getElem? (i := 9) rfl), List.forall_mem_cons.mpr ⟨wsL_i28 (List.mem_of_getElem? (i := 10) rfl), List.forall_mem_cons.mpr ⟨wsL_i28 (List.mem_of_getElem? (i := 11) rfl), List.forall_mem_cons.mpr ⟨wsL_i1 (List.mem_of_getElem? (i := 5) rfl), List.forall_mem_cons.mpr ⟨wsL_i28 (List.mem_of_getElem? (i := 12) rfl), fun _ h => absurd h List.not_mem_nil⟩⟩⟩⟩⟩) ⟨rfl, by decide, by decide, by decide +kernel⟩ ⟨⟨rfl, rfl⟩, by decide, by decide⟩ rfl rfl [.inl (xs (i + 1))] rfl (hT2.1) hP hD hS hl.1 [.int v] (Nat.le_of_ble_eq_true rfl) rfl dL_law_539 (fun v2 σ2 H locs hq2 hP hD hS => ?_)
  have e := hT2.2 v2 σ2 hq2
  exact lv_icmp_eq (tgt := 547) hx hb dL_law_542 (by decide) (fun _ => next σ2 H locs e.2 hP hD hS) (fun q => absurd e.1.symm q)
set_option maxRecDepth 100000 in
set_option maxHeartbeats 4000000 in
theorem law_loop (hr : meth.sig.returnType = ret) (hlocks : meth.locks = false) (hx : p.tables.exec = Jvm.exec) (hb : c.code = code) (hml : c.maxLocals = 4) (hown : s.vm.findClass RL = some m.cls) (hts : ∀ w ∈ wsL_law, w.before #[Value.ref b] s = true) (hK : va_K D vwCl (dk_tys cI cZ cR) s) (hnst : dk_nest s) (hX : va_X b L xs s s.heap) (hbl : b < s.heap.size) (hL : L ≤ 2048) :
    ∀ (n i : Nat), i ≤ L → L + 1 ≤ i + n → ∀ (σ : dk_S), Rel σ → ∀ (H : Heap) (locs : List Loc), va_P D vwCl (dk_W cI cZ cR ad σ) H → va_D (lawA s) (dk_W cI cZ cR ad σ) → va_S (lawA s) s.heap H locs → ∀ (ls : Array Slot), lv_has ls 4 [(0, .ref b), (1, .ref (ad 0)), (2, .ref (ad 30)), (3, .int (nI i))] → W p l e room_1 s m #[Value.ref b] below meth c H locs 600000 7302250 (lw_Z below #[Value.ref b] s) (F0 m 18 ls []) := by
  have hbA : ¬ lawA s b := Nat.not_le.mpr hbl
  intro n
  induction n with
  | zero =>
    intro i h1 h2
    exact absurd h2 (by omega)
  | succ n ih =>
    intro i hiL hin σ hR H locs hP hD hS ls hl
    refine lv_iload_n hx hb dL_law_18 rfl (lv_at hl 3 rfl) ?_
    refine lv_aload_n hx hb dL_law_19 rfl (lv_at hl 0 rfl) ?_
    refine va_slen hx hb hX hbl hbA hS dL_law_20 ?_
    refine lv_iconst (v := 4) hx hb dL_law_21 (by decide) ?_
    refine lv_isub hx hb dL_law_22 ?_
    have hsub : (Int32.ofNat L - 4).toInt = (L : Int) - 4 := by
      have e1 : (Int32.ofNat L).toInt = (L : Int) := nI_toInt (by omega)
      have e2 : (4 : Int32).toInt = 4 := rfl
      rw [dk_sub (by rw [e1, e2]; omega) (by rw [e1, e2]; omega), e1, e2]
    refine lv_icmp_gt (tgt := 553) hx hb dL_law_23 (by decide) (fun _ => ?_) (fun c_10 => ?_)
    · refine lv_iconst (v := 1) hx hb dL_law_553 (by decide) ?_
      refine va_forget (fun q hq => hS.2.2 q hq) ?_
      exact lw_ret hx hb hr hlocks dL_law_554
    · have hi : i + 4 ≤ L := by
        have c_10 : ¬ (Int32.ofNat L - 4) < nI i := c_10
        rw [dk_lt, hsub, nI_toInt (by omega)] at c_10
        omega
      have next : ∀ (σ : dk_S) (H : Heap) (locs : List Loc), Rel σ → va_P D vwCl (dk_W cI cZ cR ad σ) H → va_D (lawA s) (dk_W cI cZ cR ad σ) → va_S (lawA s) s.heap H locs → W p l e room_1 s m #[Value.ref b] below meth c H locs 600000 7302250 (lw_Z below #[Value.ref b] s) (F0 m 547 ls []) := by
        intro σ H locs hR hP hD hS
        refine lv_iinc (v := nI (i + 4)) (lv' := [(3, .int (nI (i + 4))), (0, .ref b), (1, .ref (ad 0)), (2, .ref (ad 30))]) hx hb dL_law_547 hl (k := 3) rfl (Int32.ofNat_add i 4).symm (by decide) rfl (fun ls hl => ?_)
        refine lv_goto (tgt := 18) hx hb dL_law_550 (by decide) ?_
        exact ih (i + 4) hi (by omega) σ hR H locs hP hD hS ls (lv_sub hl [1, 2, 3, 0] rfl)
      refine lv_aload_n hx hb dL_law_26 rfl (lv_at hl 0 rfl) ?_
      refine lv_iload_n hx hb dL_law_27 rfl (lv_at hl 3 rfl) ?_
      refine va_sld hx hb hX hbl hbA hS (vp_in_nI (by omega) (by omega)) dL_law_28 ?_
      refine lv_bipush (v := 31) hx hb dL_law_29 (by decide) ?_
      refine lv_iand hx hb dL_law_31 ?_
      refine lv_topi (fun x hx0 => ?_)
      by_cases hout : x.toInt < 0 ∨ 16 < x.toInt
      · exact lv_tableOut (tgt := 547) hx hb dL_law_32 hout (by decide) (next σ H locs hR hP hD hS)
      by_cases h0 : x.toInt = 0
      · exact lv_tableIn (off := 84) (tgt := 116) hx hb dL_law_32 (by omega) (by omega) (by rw [h0]; rfl) (by decide) (law_task hx hb hml hown hts hK hnst hX hbl hL hi hl hR hP hD hS next)
      by_cases h1 : x.toInt = 1
      · exact lv_tableIn (off := 107) (tgt := 139) hx hb dL_law_32 (by omega) (by omega) (by rw [h1]; rfl) (by decide) (law_constrain hx hb hml hown hts hK hnst hX hbl hL hi hl hR hP hD hS next)
      by_cases h2 : x.toInt = 2
      · exact lv_tableIn (off := 150) (tgt := 182) hx hb dL_law_32 (by omega) (by omega) (by rw [h2]; rfl) (by decide) (law_drop hx hb hml hown hts hK hnst hX hbl hL hi hl hR hP hD hS next)
      by_cases h3 : x.toInt = 3
      · exact lv_tableIn (off := 173) (tgt := 205) hx hb dL_law_32 (by omega) (by omega) (by rw [h3]; rfl) (by decide) (law_worker hx hb hml hown hts hK hnst hX hbl hL hi hl hR hP hD hS next)
      by_cases h4 : x.toInt = 4
      · exact lv_tableIn (off := 186) (tgt := 218) hx hb dL_law_32 (by omega) (by omega) (by rw [h4]; rfl) (by decide) (law_skill hx hb hml hown hts hK hnst hX hbl hL hi hl hR hP hD hS next)
      by_cases h5 : x.toInt = 5
      · exact lv_tableIn (off := 219) (tgt := 251) hx hb dL_law_32 (by omega) (by omega) (by rw [h5]; rfl) (by decide) (law_solve hx hb hml hown hts hK hnst hX hbl hL hi hl hR hP hD hS next)
      by_cases h6 : x.toInt = 6
      · exact lv_tableIn (off := 232) (tgt := 264) hx hb dL_law_32 (by omega) (by omega) (by rw [h6]; rfl) (by decide) (law_start hx hb hml hown hts hK hnst hX hbl hL hi hl hR hP hD hS next)
      by_cases h7 : x.toInt = 7
      · exact lv_tableIn (off := 265) (tgt := 297) hx hb dL_law_32 (by omega) (by omega) (by rw [h7]; rfl) (by decide) (law_length hx hb hml hown hts hK hnst hX hbl hL hi hl hR hP hD hS next)
      by_cases h8 : x.toInt = 8
      · exact lv_tableIn (off := 278) (tgt := 310) hx hb dL_law_32 (by omega) (by omega) (by rw [h8]; rfl) (by decide) (law_row hx hb hml hown hts hK hnst hX hbl hL hi hl hR hP hD hS next)
      by_cases h9 : x.toInt = 9
      · exact lv_tableIn (off := 311) (tgt := 343) hx hb dL_law_32 (by omega) (by omega) (by rw [h9]; rfl) (by decide) (law_delay hx hb hml hown hts hK hnst hX hbl hL hi hl hR hP hD hS next)
      by_cases h10 : x.toInt = 10
      · exact lv_tableIn (off := 344) (tgt := 376) hx hb dL_law_32 (by omega) (by omega) (by rw [h10]; rfl) (by decide) (law_busy hx hb hml hown hts hK hnst hX hbl hL hi hl hR hP hD hS next)
      by_cases h11 : x.toInt = 11
      · exact lv_tableIn (off := 367) (tgt := 399) hx hb dL_law_32 (by omega) (by omega) (by rw [h11]; rfl) (by decide) (law_peak hx hb hml hown hts hK hnst hX hbl hL hi hl hR hP hD hS next)
      by_cases h12 : x.toInt = 12
      · exact lv_tableIn (off := 390) (tgt := 422) hx hb dL_law_32 (by omega) (by omega) (by rw [h12]; rfl) (by decide) (law_assign hx hb hml hown hts hK hnst hX hbl hL hi hl hR hP hD hS next)
      by_cases h13 : x.toInt = 13
      · exact lv_tableIn (off := 413) (tgt := 445) hx hb dL_law_32 (by omega) (by omega) (by rw [h13]; rfl) (by decide) (law_workerOf hx hb hml hown hts hK hnst hX hbl hL hi hl hR hP hD hS next)
      by_cases h14 : x.toInt = 14
      · exact lv_tableIn (off := 436) (tgt := 468) hx hb dL_law_32 (by omega) (by omega) (by rw [h14]; rfl) (by decide) (law_cover hx hb hml hown hts hK hnst hX hbl hL hi hl hR hP hD hS next)
      by_cases h15 : x.toInt = 15
      · exact lv_tableIn (off := 469) (tgt := 501) hx hb dL_law_32 (by omega) (by omega) (by rw [h15]; rfl) (by decide) (law_check hx hb hml hown hts hK hnst hX hbl hL hi hl hR hP hD hS next)
      by_cases h16 : x.toInt = 16
      · exact lv_tableIn (off := 492) (tgt := 524) hx hb dL_law_32 (by omega) (by omega) (by rw [h16]; rfl) (by decide) (law_count hx hb hml hown hts hK hnst hX hbl hL hi hl hR hP hD hS next)
      omega
end LAW
