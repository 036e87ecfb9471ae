/-! contracts, and calls by them -/
def dk_B (D : va_G) (cI cZ cR : ClassId) (ad : Nat → Nat) (A : Nat → Prop) (σ : dk_S) (U : State) : Prop := va_P D vwCl (dk_W cI cZ cR ad σ) U.heap ∧ va_K D vwCl (dk_tys cI cZ cR) U ∧ va_D A (dk_W cI cZ cR ad σ) ∧ dk_nest U
def dk_Qc (D : va_G) (cI cZ cR : ClassId) (ad : Nat → Nat) (M : dk_M) (as : List dk_V) (σ : dk_S) (A : Nat → Prop) : Array Value → State → Outcome → State → Prop := match M.2.1 with
  | true => va_Qi (fun (r : Int32) (u : dk_S) => M.2.2.2 as σ r u) (dk_B D cI cZ cR ad A) A
  | false => va_Qv (fun u : dk_S => M.2.2.2 as σ 0 u) (dk_B D cI cZ cR ad A) A
def dk_Met (l : Launch) (D : va_G) (cI cZ cR : ClassId) (ad : Nat → Nat) (y : MethodName) (cc : ByteArray) (maxL : Nat) (ret : Option FieldType) (rm : Room) (M : dk_M) : Prop :=
  ∀ (as : List dk_V) (σ : dk_S) (sz : Nat), M.2.2.1 as σ → Met l y (Cond.code y cc maxL ret :: wsL_law) rm (va_Pc (as.map (dk_v ad)) (fun U => U.heap.size = sz ∧ dk_B D cI cZ cR ad (fun _ => True) σ U)) (dk_Qc D cI cZ cR ad M as σ (va_A (dk_W cI cZ cR ad σ) sz)) 0 0 (va_A (dk_W cI cZ cR ad σ) sz)
theorem dk_lg (ad : Nat → Nat) : ∀ as : List dk_V, (lg_sl (as.map (dk_v ad))).length = as.length := by
  intro as
  induction as with
  | nil => rfl
  | cons v r ih =>
    have e : lg_sl ((v :: r).map (dk_v ad)) = [.val (dk_v ad v)] ++ lg_sl (r.map (dk_v ad)) := by
      unfold lg_sl
      rw [List.map_cons, List.flatMap_cons, if_neg (by rw [dk_v_cat]; decide)]
    rw [e, List.length_append, ih]
    simp
    omega
theorem dk_la (ad : Nat → Nat) : ∀ (as : List dk_V) (i : Nat), lv_args i (as.map (dk_v ad)) = (dk_ent i as).map (fun q => (q.1, dk_v ad q.2)) := by
  intro as
  induction as with
  | nil => intro i; rfl
  | cons v r ih =>
    intro i
    simp only [List.map_cons, lv_args, dk_ent]
    rw [if_neg (by rw [dk_v_cat]; decide), ih]
set_option maxHeartbeats 4000000 in
theorem dk_met {l : Launch} {D : va_G} {cI cZ cR : ClassId} {ad : Nat → Nat} {y : MethodName} {cc : ByteArray} {maxL : Nat} {ret : Option FieldType} {rm : Room} {M : dk_M} {G : dk_G} (vd : Bool) (hy : plainName y.cls = true) (hnL : G.2.2.2.2.2.1 = maxL) (hcode : G.1.all (dk_chk cc vd) = true) (hfld : ∀ x ∈ G.2.1, dk_fldok y.cls x) (hcon : ∀ x ∈ G.2.2.2.2.1, Cond.constant y.cls x.1 x.2 ∈ wsL_law)
    (hV : ∀ idx M, dk_fm G.2.2.1 idx = some M → dk_callee l D cI cZ cR ad rm y.cls cc maxL (.invokevirtual idx) M) (hSt : ∀ idx M, dk_fm G.2.2.2.1 idx = some M → dk_callee l D cI cZ cR ad rm y.cls cc maxL (.invokestatic idx) M)
    (hret : (M.2.1 = true ∧ vd = false ∧ ((G.2.2.2.2.2.2 = false ∧ ret = some .int) ∨ (G.2.2.2.2.2.2 = true ∧ ret = some .boolean))) ∨ (M.2.1 = false ∧ vd = true ∧ ret = none)) (hlen : M.1 ≤ maxL) (hp : dk_pure G M) : dk_Met l D cI cZ cR ad y cc maxL ret rm M := by
  intro as σ sz hpre
  refine Met.ofW (cc := cc) (maxL := maxL) (ret := ret) hy rfl ?_
  intro p e s m args below meth c s₁ B hml hv
  obtain ⟨rfl, hsz, hP, hK, hD0, hnst⟩ := hv
  have hts0 := atoms_spec (ws := Cond.code y cc maxL ret :: wsL_law) B.pre
  have hts : ∀ w ∈ wsL_law, w.before (as.map (dk_v ad)).toArray s = true := fun w h => hts0 w (List.mem_cons_of_mem _ h)
  have hown : s.vm.findClass y.cls = some m.cls := findClass_of_methodNamed B.named
  have hlocks := B.notSynchronized
  subst hsz
  have hD := hD0.self (sz := s.heap.size)
  have hA : ∀ q : Nat, s.heap.size ≤ q → va_A (dk_W cI cZ cR ad σ) s.heap.size q := fun q h => Or.inr h
  generalize va_A (dk_W cI cZ cR ad σ) s.heap.size = A at hD hA ⊢
  have hc : dk_ctx p s m (as.map (dk_v ad)).toArray c D cI cZ cR A y.cls cc maxL := ⟨B.exec, B.bytes, hml, hown, hts, hK, hnst, hA⟩
  have hlen2 := (hp (fun _ _ _ _ => True) as σ hpre ⟨fun _ _ _ _ _ _ _ => trivial, fun _ _ _ _ _ _ _ => trivial⟩).1
  have hl := lv_entry (as.map (dk_v ad)) (n := maxL) (by rw [dk_lg, hlen2]; exact hlen)
  rw [dk_la] at hl
  rw [lg_entry_eq]
  generalize (lg_sl (as.map (dk_v ad)) ++ List.replicate (maxL - (lg_sl (as.map (dk_v ad))).length) Slot.unset).toArray = ls at hl ⊢
  have hok : dk_ok G (fun r σ' => M.2.2.2 as σ r σ') (dk_mok p l e rm s m (as.map (dk_v ad)).toArray below meth c (MQ below (dk_Qc D cI cZ cR ad M as σ A) (as.map (dk_v ad)).toArray s 0 0 A) D cI cZ cR ad A maxL) := by
    refine dk_sound vd hc hnL hcode hfld hcon hV hSt ?_ ?_
    · intro hvd v σ' H locs ls pc hq hz hP hD hS hd
      rcases hret with ⟨h1, -, h3⟩ | ⟨-, h2, -⟩
      · have hq2 : ∀ t : State, t.heap = H → s.WarmedH t.vm → dk_Qc D cI cZ cR ad M as σ A (as.map (dk_v ad)).toArray s (.returned (some (.int v))) t := by
          intro t ht hW
          unfold dk_Qc
          rw [h1]
          exact ⟨⟨v, σ', rfl, hq, by rw [ht]; exact hP, va_K.moved hW.alike hK, hD, hnst.warm hW⟩, hS.F ht⟩
        rcases h3 with ⟨h4, h5⟩ | ⟨h4, h5⟩
        · subst h5
          exact W.iret B.exec B.bytes B.returns hq2 hS.2.2 hd (hlocks := hlocks)
        · subst h5
          exact W.zret B.exec B.bytes B.returns (by rcases hz h4 with rfl | rfl <;> rfl) hq2 hS.2.2 hd (hlocks := hlocks)
      · rw [h2] at hvd; cases hvd
    · intro hvd σ' H locs ls pc hq hP hD hS hd
      rcases hret with ⟨-, h2, -⟩ | ⟨h1, -, h3⟩
      · rw [h2] at hvd; cases hvd
      · subst h3
        refine W.vret B.exec B.bytes B.returns (fun t ht hW => ?_) hS.2.2 hd (hlocks := hlocks)
        unfold dk_Qc
        rw [h1]
        exact ⟨⟨σ', rfl, hq, by rw [ht]; exact hP, va_K.moved hW.alike hK, hD, hnst.warm hW⟩, hS.F ht⟩
  exact (hp _ as σ hpre hok).2 s.heap [] ls hP hD va_S.rf hl
theorem dk_good {ws : List Cond} (h : ∀ w ∈ ws, w ∈ wsL_law) : GoodIn wsL_law ws := fun w hw => ⟨h w hw, (wsL_good w (h w hw)).2⟩
theorem dk_catsum (ad : Nat → Nat) : ∀ r : List dk_V, ((r.map (dk_v ad)).map fun v => v.category).sum = r.length := by
  intro r
  induction r with
  | nil => rfl
  | cons v r ih => simp only [List.map_cons, List.sum_cons, List.length_cons, dk_v_cat, ih]; omega
/-- the same, whatever way the call goes: by va_Run -/
theorem dk_go {l : Launch} {D : va_G} {cI cZ cR : ClassId} {ad : Nat → Nat} {R : Room} {own : String} {cc : ByteArray} {nL : Nat} {M : dk_M}
    {p : Program} {e : Env} {s : State} {m : MethodId} {args : Array Value} {below : List Frame} {meth : Method} {c : Code} {Q : State → Prop} {A : Nat → Prop} (hc : dk_ctx p s m args c D cI cZ cR A own cc nL) {pc : Nat} {lo : dk_L} {st : List dk_V} {σ : dk_S} {K : List dk_V → dk_S → Prop} (h : dk_call M st σ K)
    (hk : ∀ st' σ', K st' σ' → dk_mok p l e R s m args below meth c Q D cI cZ cR ad A nL (pc + 3) lo st' σ') {H : Heap} {locs : List Loc} {ls : Array Slot} (hP : va_P D vwCl (dk_W cI cZ cR ad σ) H) (hD : va_D A (dk_W cI cZ cR ad σ)) (hS : va_S A s.heap H locs) (hl : lv_has ls nL (lo.map fun q => (q.1, dk_v ad q.2))) {a : Array Value}
    (hrun : va_Run p l e R s m args below meth c H locs 0 0 0 0 (F0 m pc ls (st.map (dk_v ad))) ((st.drop M.1).map (dk_v ad)) (dk_Qc D cI cZ cR ad M (st.take M.1).reverse σ (va_A (dk_W cI cZ cR ad σ) H.size) a) (va_A (dk_W cI cZ cR ad σ) H.size)) :
    W p l e R s m args below meth c H locs 0 0 Q (F0 m pc ls (st.map (dk_v ad))) := by
  obtain ⟨hx, hb, hml, hown, hts, hK, hnst, hA⟩ := hc
  obtain ⟨h1, h2, hpre, hpost⟩ := h
  have hF : ∀ q, va_A (dk_W cI cZ cR ad σ) H.size q → A q := by
    rintro q (⟨k, x, hq⟩ | hq)
    · exact hD.2 k _ hq
    · exact hA q (Nat.le_trans hS.1 hq)
  unfold dk_Qc at hrun
  cases hm : M.2.1 with
  | true =>
    rw [hm] at hrun hpost
    refine va_calli hrun hS (fun q _ h => hF q h) hF (fun r u t H1 locs1 ht hvm hw hB hz1 hk1 hS1 => ?_)
    obtain ⟨hP1, -, hD1, -⟩ := hB
    rw [ht] at hP1
    exact hk _ u (hpost r u hw) H1 locs1 ls hP1 (hD1.weaken (fun _ q _ h => hF q.1 h)) hS1 hl
  | false =>
    rw [hm] at hrun hpost
    refine va_callv hrun hS (fun q _ h => hF q h) hF (fun u t H1 locs1 ht hvm hw hB hz1 hk1 hS1 => ?_)
    obtain ⟨hP1, -, hD1, -⟩ := hB
    rw [ht] at hP1
    exact hk _ u (hpost 0 u hw) H1 locs1 ls hP1 (hD1.weaken (fun _ q _ h => hF q.1 h)) hS1 hl
theorem dk_blind {D : va_G} {cI cZ cR : ClassId} {ad : Nat → Nat} {as : List Value} {σ : dk_S} {sz : Nat} : FrameBlind (va_Pc as (fun U => U.heap.size = sz ∧ dk_B D cI cZ cR ad (fun _ => True) σ U)) := by
  intro a U g mk q
  obtain ⟨q0, q1, qP, qK, qD, qN⟩ := q
  exact ⟨q0, q1, qP, va_K.moved (u := U) (U := U.calling g mk a) (Vm.Alike.refl U.vm) qK, qD, qN.same rfl⟩
set_option maxHeartbeats 4000000 in
theorem dk_calleeV {l : Launch} {D : va_G} {cI cZ cR : ClassId} {ad : Nat → Nat} {R rm : Room} {own C : String} {cc cy : ByteArray} {nL maxL idx n : Nat} {ret : Option FieldType} {y : MethodName} {M : dk_M} (hM : dk_Met l D cI cZ cR ad y cy maxL ret rm M) (hw : ∀ w ∈ ([.methodLink own idx y, .instanceMethod y, .selects C y y, .initialized C, .code y cy maxL ret] : List Cond), w ∈ wsL_law)
    (hd : y.cls = C ∧ y.cls ≠ "java/lang/invoke/MethodHandle" ∧ y.cls ≠ "java/lang/invoke/VarHandle" ∧ (parseMethodDescriptor y.desc).map (fun d => d.parameters.length) = some n) (hrm : (rm.cells = 0 ∧ rm.slots = 0) ∧ rm.frames + 1 ≤ R.frames ∧ 8 + (maxL + 11) + rm.locals ≤ R.locals)
    (hrec : ∀ as σ, M.2.2.1 as σ → ∃ (k : Nat) (r : List dk_V) (ci : Nat) (fs : List (Option Nat)) (T : u_T) (N : Nat), as = .inr k :: r ∧ r.length = n ∧ dk_obj k = some (ci, fs) ∧ vwCl[ci]? = some (C, T, N)) : dk_callee l D cI cZ cR ad R own cc nL (.invokevirtual idx) M := by
  intro p e s m args below meth c Q A hc pc hdec lo st σ K h hk H locs ls hP hD hS hl
  have hc0 := hc
  have h0 := h
  obtain ⟨hx, hb, hml, hown, hts, hK, hnst, hA⟩ := hc
  obtain ⟨h1, h2, hpre, hpost⟩ := h
  obtain ⟨k, r, ci, fs, T, N, has, hrl, hob, hcl⟩ := hrec _ _ hpre
  have e1 : st.take M.1 = r.reverse ++ [.inr k] := by
    have := congrArg List.reverse has
    rw [List.reverse_reverse] at this
    rw [this, List.reverse_cons]
  have hst : st = r.reverse ++ .inr k :: st.drop M.1 := by
    have := List.take_append_drop M.1 st
    rw [e1, List.append_assoc] at this
    exact this.symm
  have hGd : GoodIn wsL_law (wsV own idx C y (Cond.code y cy maxL ret :: wsL_law)) := dk_good (fun w hh => by
    unfold wsV at hh
    rcases List.mem_append.mp hh with hh | hh
    · exact hw w (by simp at hh ⊢; rcases hh with h | h | h | h <;> simp [h])
    · rcases List.mem_cons.mp hh with hh | hh
      · exact hw w (by simp [hh])
      · exact hh)
  have hg := dk_W_get (cI := cI) (cZ := cZ) (cR := cR) (ad := ad) (σ := σ) (dk_obj_lt hob)
  rw [dk_cell_obj hob] at hg
  have hMM := hM _ σ H.size hpre
  have hrun := va_runV (l := l) (e := e) (R := R) (below := below) (meth := meth) (locs := locs) (cells := 0) (slots := 0) (nL := nL) (g := F0 m pc ls (st.map (dk_v ad))) (As := r.map (dk_v ad)) (rest := (st.drop M.1).map (dk_v ad)) (b := ad k) ⟨hx, hb, hml, hown, hts⟩ hMM (cwV n hts hGd rfl hrm.1.1 hrm.1.2 hd hrm.2)
    ⟨dk_blind, va_recv hK hP hcl hg, fun U hU hW => ⟨by rw [has]; rfl, by rw [hU], by rw [hU]; exact hP, va_K.moved hW.alike hK, hD.weaken (fun _ _ _ _ => trivial), hnst.warm hW⟩⟩ rfl (by rw [List.length_map, hrl]) hl.1
    (by show st.map (dk_v ad) = _
        conv => lhs; rw [hst]
        simp [dk_v])
    (lv_room (by rw [dk_catsum, List.length_drop]; omega)) hdec ⟨Nat.zero_le _, Nat.zero_le _⟩
  exact dk_go hc0 h0 hk hP hD hS hl hrun
set_option maxHeartbeats 4000000 in
theorem dk_calleeS {l : Launch} {D : va_G} {cI cZ cR : ClassId} {ad : Nat → Nat} {R rm : Room} {own : String} {cc cy : ByteArray} {nL maxL idx n : Nat} {ret : Option FieldType} {y : MethodName} {M : dk_M} (hM : dk_Met l D cI cZ cR ad y cy maxL ret rm M) (hw : ∀ w ∈ ([.methodLink own idx y, .static y, .initialized y.cls, .code y cy maxL ret] : List Cond), w ∈ wsL_law)
    (hd : y.cls ≠ "java/lang/invoke/MethodHandle" ∧ y.cls ≠ "java/lang/invoke/VarHandle" ∧ (parseMethodDescriptor y.desc).map (fun d => d.parameters.length) = some n) (hrm : (rm.cells = 0 ∧ rm.slots = 0) ∧ rm.frames + 1 ≤ R.frames ∧ 8 + (maxL + 11) + rm.locals ≤ R.locals)
    (hn : M.1 = n) : dk_callee l D cI cZ cR ad R own cc nL (.invokestatic idx) M := by
  intro p e s m args below meth c Q A hc pc hdec lo st σ K h hk H locs ls hP hD hS hl
  have hc0 := hc
  have h0 := h
  obtain ⟨hx, hb, hml, hown, hts, hK, hnst, hA⟩ := hc
  obtain ⟨h1, h2, hpre, hpost⟩ := h
  have hGd : GoodIn wsL_law (va_wsS own idx y (Cond.code y cy maxL ret :: wsL_law)) := dk_good (fun w hh => by
    unfold va_wsS at hh
    rcases List.mem_append.mp hh with hh | hh
    · exact hw w (by simp at hh ⊢; rcases hh with h | h | h <;> simp [h])
    · rcases List.mem_cons.mp hh with hh | hh
      · exact hw w (by simp [hh])
      · exact hh)
  have hMM := hM _ σ H.size hpre
  have hrun := va_runS (l := l) (e := e) (R := R) (below := below) (meth := meth) (locs := locs) (cells := 0) (slots := 0) (nL := nL) (g := F0 m pc ls (st.map (dk_v ad))) (As := (st.take M.1).reverse.map (dk_v ad)) (rest := (st.drop M.1).map (dk_v ad)) ⟨hx, hb, hml, hown, hts⟩ hMM (va_cwS n hts hGd rfl hrm.1.1 hrm.1.2 hd hrm.2)
    ⟨dk_blind, fun U hU hW => ⟨rfl, by rw [hU], by rw [hU]; exact hP, va_K.moved hW.alike hK, hD.weaken (fun _ _ _ _ => trivial), hnst.warm hW⟩⟩ rfl (by rw [List.length_map, List.length_reverse, List.length_take]; omega) hl.1
    (by show st.map (dk_v ad) = _
        conv => lhs; rw [← List.take_append_drop M.1 st]
        simp)
    (lv_room (by rw [dk_catsum, List.length_drop]; omega)) hdec ⟨Nat.zero_le _, Nat.zero_le _⟩
  exact dk_go hc0 h0 hk hP hD hS hl hrun
set_option maxHeartbeats 4000000 in
theorem dk_calleeSN {l : Launch} {D : va_G} {cI cZ cR : ClassId} {ad : Nat → Nat} {R rm : Room} {own host : String} {cc cy : ByteArray} {nL maxL idx n : Nat} {ret : Option FieldType} {y : MethodName} {M : dk_M} (hM : dk_Met l D cI cZ cR ad y cy maxL ret rm M) (hw : ∀ w ∈ ([.static y, .initialized y.cls, .code y cy maxL ret] : List Cond), w ∈ wsL_law) (hN : ∀ U, dk_nest U → va_Nw (.methodLinkNest own idx y host) U)
    (hd : y.cls ≠ "java/lang/invoke/MethodHandle" ∧ y.cls ≠ "java/lang/invoke/VarHandle" ∧ (parseMethodDescriptor y.desc).map (fun d => d.parameters.length) = some n) (hrm : (rm.cells = 0 ∧ rm.slots = 0) ∧ rm.frames + 1 ≤ R.frames ∧ 8 + (maxL + 11) + rm.locals ≤ R.locals)
    (hn : M.1 = n) : dk_callee l D cI cZ cR ad R own cc nL (.invokestatic idx) M := by
  intro p e s m args below meth c Q A hc pc hdec lo st σ K h hk H locs ls hP hD hS hl
  have hc0 := hc
  have h0 := h
  obtain ⟨hx, hb, hml, hown, hts, hK, hnst, hA⟩ := hc
  obtain ⟨h1, h2, hpre, hpost⟩ := h
  have hGd : GoodIn wsL_law (Cond.code y cy maxL ret :: wsL_law) := dk_good (fun w hh => by
    rcases List.mem_cons.mp hh with hh | hh
    · exact hw w (by simp [hh])
    · exact hh)
  have hMM := hM _ σ H.size hpre
  have hrun := va_runSN (l := l) (e := e) (R := R) (below := below) (meth := meth) (locs := locs) (cells := 0) (slots := 0) (nL := nL) (g := F0 m pc ls (st.map (dk_v ad))) (As := (st.take M.1).reverse.map (dk_v ad)) (rest := (st.drop M.1).map (dk_v ad)) ⟨hx, hb, hml, hown, hts⟩ hMM ⟨va_cnB n hts hGd rfl hrm.1.1 hrm.1.2 (hN s hnst) (hts _ (hw _ (by simp))) hd hrm.2, hts _ (hw _ (by simp)), trivial⟩
    ⟨dk_blind, fun U hU hW => ⟨rfl, by rw [hU], by rw [hU]; exact hP, va_K.moved hW.alike hK, hD.weaken (fun _ _ _ _ => trivial), hnst.warm hW⟩⟩ rfl (by rw [List.length_map, List.length_reverse, List.length_take]; omega) hl.1
    (by show st.map (dk_v ad) = _
        conv => lhs; rw [← List.take_append_drop M.1 st]
        simp)
    (lv_room (by rw [dk_catsum, List.length_drop]; omega)) hdec ⟨Nat.zero_le _, Nat.zero_le _⟩
  exact dk_go hc0 h0 hk hP hD hS hl hrun
