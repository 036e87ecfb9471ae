/-! constructors: the form of their contracts, how one is opened, how one is called -/
/-- what the tables say that no word of the list says: the array of arrays, the private constructors -/
def dk_ni (U : State) : Prop := va_AOA .int U ∧ va_Nw (.methodLinkNest RX6 11 yX4_init RX6) U ∧ va_Nw (.methodLinkNest RX6 18 yX2_init RX6) U
theorem dk_ni.warm {s U : State} (hW : s.WarmedH U.vm) (h : dk_ni s) : dk_ni U := ⟨h.1.moved hW.alike, va_Nw.warmM hW h.2.1, va_Nw.warmM hW h.2.2⟩
theorem dk_ni.same {s U : State} (hW : s.vm = U.vm) (h : dk_ni s) : dk_ni U := ⟨h.1.moved (by rw [hW]; exact Vm.Alike.refl U.vm), va_Nw.same rfl hW h.2.1, va_Nw.same rfl hW h.2.2⟩
def dk_Ctor (l : Launch) (D : va_G) (cI cZ cR : ClassId) (y : MethodName) (cy : ByteArray) (maxL : Nat) (rm : Room) (ci : Nat) (fs0 av : List Value) (mc ms : Nat) (G : Nat → va_W → Prop) : Prop :=
  ∀ (h0 sz : Nat), Met l y (Cond.code y cy maxL none :: wsL_law) rm (va_Pc (.ref h0 :: av) (fun U => U.heap.size = sz ∧ va_P D vwCl [(h0, .inr (ci, fs0))] U.heap ∧ va_K D vwCl (dk_tys cI cZ cR) U ∧ va_D (fun _ => True) [(h0, .inr (ci, fs0))] ∧ dk_ni U))
    (va_Qv (G h0) (fun w t => va_P D vwCl w t.heap ∧ va_K D vwCl (dk_tys cI cZ cR) t ∧ va_D (va_A [(h0, .inr (ci, fs0))] sz) w) (va_A [(h0, .inr (ci, fs0))] sz)) mc ms (va_A [(h0, .inr (ci, fs0))] sz)
theorem va_nd_of : ∀ {l : List Nat}, l.Nodup → va_nd l = true := by
  intro l
  induction l with
  | nil => intro _; rfl
  | cons a l ih =>
    intro h
    obtain ⟨h1, h2⟩ := List.nodup_cons.mp h
    unfold va_nd
    rw [ih h2, decide_eq_true h1]
    rfl
theorem va_nd_range (n : Nat) : va_nd (List.range n) = true := va_nd_of List.nodup_range
section CTOR
variable {l : Launch} {D : va_G} {cI cZ cR : ClassId} {y : MethodName} {cy : ByteArray} {maxL : Nat} {rm : Room} {ci : Nat} {fs0 av : List Value} {mc ms : Nat} {G : Nat → va_W → Prop}
set_option maxHeartbeats 1000000 in
theorem dk_ctor (hy : plainName y.cls = true) (hlen : ∀ h0, (lg_sl (.ref h0 :: av)).length ≤ maxL)
    (body : ∀ (p : Program) (e : Env) (s : State) (m : MethodId) (args : Array Value) (below : List Frame) (meth : Method) (c : Code) (Q : State → Prop) (h0 : Nat) (A : Nat → Prop), p.tables.exec = Jvm.exec → c.code = cy → c.maxLocals = maxL → s.vm.findClass y.cls = some m.cls → meth.name = y.name → (∀ w ∈ wsL_law, w.before args s = true) → va_K D vwCl (dk_tys cI cZ cR) s → dk_ni s → (∀ q, s.heap.size ≤ q → A q) → va_P D vwCl [(h0, .inr (ci, fs0))] s.heap → va_D A [(h0, .inr (ci, fs0))] → va_S A s.heap s.heap [] → ∀ ls : Array Slot, lv_has ls maxL (lv_args 0 (.ref h0 :: av)) →
      (∀ (w : va_W) (H : Heap) (locs : List Loc) (ls : Array Slot) (pc : Nat), G h0 w → va_P D vwCl w H → va_D A w → va_S A s.heap H locs → decode cy pc = .ok (.return_, 1) → W p l e rm s m args below meth c H locs mc ms Q (F0 m pc ls [])) → W p l e rm s m args below meth c s.heap [] 0 0 Q (F0 m 0 ls [])) :
    dk_Ctor l D cI cZ cR y cy maxL rm ci fs0 av mc ms G := by
  intro h0 sz
  refine Met.ofW (cc := cy) (maxL := maxL) (ret := none) hy rfl ?_
  intro p e s m args below meth c s₁ B hml hv
  obtain ⟨rfl, hsz, hP, hK, hD0, hAO⟩ := hv
  have hts0 := atoms_spec (ws := Cond.code y cy maxL none :: wsL_law) B.pre
  have hts : ∀ w ∈ wsL_law, w.before (Value.ref h0 :: av).toArray s = true := fun w h => hts0 w (List.mem_cons_of_mem _ h)
  have hown : s.vm.findClass y.cls = some m.cls := findClass_of_methodNamed B.named
  have hlocks := B.notSynchronized
  have hin : meth.name = y.name := (name_of_methodNamed B.named B.method).1
  subst hsz
  have hD := hD0.self (sz := s.heap.size)
  have hA : ∀ q : Nat, s.heap.size ≤ q → va_A [(h0, .inr (ci, fs0))] s.heap.size q := fun q h => Or.inr h
  generalize va_A [(h0, .inr (ci, fs0))] s.heap.size = A at hD hA ⊢
  have hl := lv_entry (.ref h0 :: av) (n := maxL) (hlen h0)
  rw [lg_entry_eq]
  generalize (lg_sl (.ref h0 :: av) ++ List.replicate (maxL - (lg_sl (.ref h0 :: av)).length) Slot.unset).toArray = ls at hl ⊢
  refine body p e s m _ below meth c _ h0 A B.exec B.bytes hml hown hin hts hK hAO hA hP hD va_S.rf ls hl (fun w H locs ls pc hG hP hD hS hd => ?_)
  exact W.vret B.exec B.bytes B.returns (fun t ht hW => ⟨⟨w, rfl, hG, by rw [ht]; exact hP, va_K.moved hW.alike hK, hD⟩, hS.F ht⟩) hS.2.2 hd (hlocks := hlocks)
set_option maxHeartbeats 1000000 in
theorem dk_ctor_call {p : Program} {e : Env} {R : Room} {s : State} {m : MethodId} {args : Array Value} {below : List Frame} {meth : Method} {c : Code} {H : Heap} {locs : List Loc} {cells slots : Nat} {Q : State → Prop} {cc : ByteArray} {pc nL idx n : Nat} {ls : Array Slot} {rest : List Value} {A : Nat → Prop} {X : va_W} {H0 : Heap} {own : String} {q : Nat} {st : List Value}
    (hx : p.tables.exec = Jvm.exec) (hb : c.code = cc) (hml : c.maxLocals = nL) (hown : s.vm.findClass own = some m.cls) (hts : ∀ w ∈ wsL_law, w.before args s = true) (hK : va_K D vwCl (dk_tys cI cZ cR) s) (hAO : dk_ni s) (hA : ∀ q, H0.size ≤ q → A q) (hM : dk_Ctor l D cI cZ cR y cy maxL rm ci fs0 av mc ms G) (hrm : rm.cells = mc ∧ rm.slots = ms) (hw : ∀ w ∈ ([.methodLink own idx y, .instanceMethod y, .initialized y.cls, .code y cy maxL none] : List Cond), w ∈ wsL_law) (hy1 : y.name = "<init>")
    (hd : y.cls ≠ "java/lang/invoke/MethodHandle" ∧ y.cls ≠ "java/lang/invoke/VarHandle" ∧ (parseMethodDescriptor y.desc).map (fun d => d.parameters.length) = some n) (hR : rm.frames + 1 ≤ R.frames ∧ 8 + (maxL + 11) + rm.locals ≤ R.locals) (hav : av.length = n) (hP : va_P D vwCl (X ++ [(q, .inr (ci, fs0))]) H) (hD : va_D A (X ++ [(q, .inr (ci, fs0))])) (hS : va_S A H0 H locs) (hl : ls.size = nL) (hst : st = av.reverse ++ .ref q :: rest) (hrest : (rest.map fun v => v.category).sum ≤ 8) (hdec : decode cc pc = .ok (.invokespecial idx, 3)) (hf : cells + mc ≤ R.cells ∧ slots + ms ≤ R.slots)
    (kk : ∀ (w : va_W) (H1 : Heap) (locs1 : List Loc), G q w → va_P D vwCl (X ++ w) H1 → va_D A (X ++ w) → va_S A H0 H1 locs1 → W p l e R s m args below meth c H1 locs1 (cells + mc) (slots + ms) Q (F0 m (pc + 3) ls rest)) : W p l e R s m args below meth c H locs cells slots Q (F0 m pc ls st) := by
  have hGd : GoodIn wsL_law (Cond.code y cy maxL none :: wsL_law) := dk_good (fun w hh => by
    rcases List.mem_cons.mp hh with hh | hh
    · exact hw w (by simp [hh])
    · exact hh)
  have hlast : (X ++ [(q, (.inr (ci, fs0) : va_E))])[X.length]? = some (q, .inr (ci, fs0)) := by
    rw [List.getElem?_append_right (Nat.le_refl _), Nat.sub_self]; rfl
  have hisC : [X.length].map (fun i => (X ++ [(q, (.inr (ci, fs0) : va_E))])[i]?) = ([(q, .inr (ci, fs0))] : va_W).map some := by
    simp only [List.map_cons, List.map_nil, hlast]
  have hisR : (List.range X.length).map (fun i => (X ++ [(q, (.inr (ci, fs0) : va_E))])[i]?) = X.map some := by
    apply List.ext_getElem?
    intro i
    rw [List.getElem?_map, List.getElem?_map]
    by_cases h : i < X.length
    · rw [List.getElem?_range h]
      show some ((X ++ [(q, (.inr (ci, fs0) : va_E))])[i]?) = _
      rw [List.getElem?_append_left h, List.getElem?_eq_getElem h]
      rfl
    · rw [List.getElem?_eq_none (by rw [List.length_range]; omega), List.getElem?_eq_none (by omega)]
      rfl
  have hPc : va_P D vwCl [(q, .inr (ci, fs0))] H := fun k x hk => by
    have h0 : k < 1 := (List.getElem?_eq_some_iff.mp hk).1
    rw [show k = 0 by omega] at hk
    cases hk
    exact hP _ _ hlast
  have hDc : va_D A [(q, .inr (ci, fs0))] := hD.sub [X.length] rfl hisC
  have hFc := va_free (wc := [(q, .inr (ci, fs0))]) hD hS hA [X.length] hisC
  refine va_callv (va_runI (As := av) (rest := rest) ⟨hx, hb, hml, hown, hts⟩ (hM q H.size) (cwI n hts hGd rfl hrm.1 hrm.2 (hts _ (hw _ (by simp))) (hts _ (hw _ (by simp))) (hts _ (hw _ (by simp))) hy1 hd hR)
    ⟨fun a U g mk z => by obtain ⟨q0, q1, qP, qK, qD, qA⟩ := z; exact ⟨q0, q1, qP, va_K.moved (u := U) (U := U.calling g mk a) (Vm.Alike.refl U.vm) qK, qD, qA.same rfl⟩, fun U hU hW => ⟨rfl, by rw [hU], by rw [hU]; exact hPc, va_K.moved hW.alike hK, hDc.weaken (fun _ _ _ _ => trivial), hAO.warm hW⟩⟩ rfl hav hl hst (lv_room hrest) hdec hf) hS (fun q _ h => hFc q h) hFc (fun w t H1 locs1 ht hvm hG hB hz1 hk1 hS1 => ?_)
  obtain ⟨hP1, -, hD1⟩ := hB
  rw [ht] at hP1
  have hnd : va_nd (List.range X.length) = true := va_nd_range X.length
  obtain ⟨hP2, hD2⟩ := va_join (wr := X) (w1 := w) hP hD [X.length] (List.range X.length) hisC hisR hnd (fun i hi => by
    have := List.mem_range.mp hi
    simp
    omega) hk1 hFc hP1 hD1
  exact kk w H1 locs1 hG hP2 hD2 hS1
set_option maxHeartbeats 1000000 in
theorem dk_ctor_callN {p : Program} {e : Env} {R : Room} {s : State} {m : MethodId} {args : Array Value} {below : List Frame} {meth : Method} {c : Code} {H : Heap} {locs : List Loc} {cells slots : Nat} {Q : State → Prop} {cc : ByteArray} {pc nL idx n : Nat} {ls : Array Slot} {rest : List Value} {A : Nat → Prop} {X : va_W} {H0 : Heap} {own : String} {q : Nat} {st : List Value}
    (hx : p.tables.exec = Jvm.exec) (hb : c.code = cc) (hml : c.maxLocals = nL) (hown : s.vm.findClass own = some m.cls) (hts : ∀ w ∈ wsL_law, w.before args s = true) (hK : va_K D vwCl (dk_tys cI cZ cR) s) (hAO : dk_ni s) (hA : ∀ q, H0.size ≤ q → A q) (hM : dk_Ctor l D cI cZ cR y cy maxL rm ci fs0 av mc ms G) (hrm : rm.cells = mc ∧ rm.slots = ms) (hw : ∀ w ∈ ([.instanceMethod y, .initialized y.cls, .code y cy maxL none] : List Cond), w ∈ wsL_law) (hy1 : y.name = "<init>") {host : String} (hN : va_Nw (.methodLinkNest own idx y host) s)
    (hd : y.cls ≠ "java/lang/invoke/MethodHandle" ∧ y.cls ≠ "java/lang/invoke/VarHandle" ∧ (parseMethodDescriptor y.desc).map (fun d => d.parameters.length) = some n) (hR : rm.frames + 1 ≤ R.frames ∧ 8 + (maxL + 11) + rm.locals ≤ R.locals) (hav : av.length = n) (hP : va_P D vwCl (X ++ [(q, .inr (ci, fs0))]) H) (hD : va_D A (X ++ [(q, .inr (ci, fs0))])) (hS : va_S A H0 H locs) (hl : ls.size = nL) (hst : st = av.reverse ++ .ref q :: rest) (hrest : (rest.map fun v => v.category).sum ≤ 8) (hdec : decode cc pc = .ok (.invokespecial idx, 3)) (hf : cells + mc ≤ R.cells ∧ slots + ms ≤ R.slots)
    (kk : ∀ (w : va_W) (H1 : Heap) (locs1 : List Loc), G q w → va_P D vwCl (X ++ w) H1 → va_D A (X ++ w) → va_S A H0 H1 locs1 → W p l e R s m args below meth c H1 locs1 (cells + mc) (slots + ms) Q (F0 m (pc + 3) ls rest)) : W p l e R s m args below meth c H locs cells slots Q (F0 m pc ls st) := by
  have hGd : GoodIn wsL_law (Cond.code y cy maxL none :: wsL_law) := dk_good (fun w hh => by
    rcases List.mem_cons.mp hh with hh | hh
    · exact hw w (by simp [hh])
    · exact hh)
  have hlast : (X ++ [(q, (.inr (ci, fs0) : va_E))])[X.length]? = some (q, .inr (ci, fs0)) := by
    rw [List.getElem?_append_right (Nat.le_refl _), Nat.sub_self]; rfl
  have hisC : [X.length].map (fun i => (X ++ [(q, (.inr (ci, fs0) : va_E))])[i]?) = ([(q, .inr (ci, fs0))] : va_W).map some := by
    simp only [List.map_cons, List.map_nil, hlast]
  have hisR : (List.range X.length).map (fun i => (X ++ [(q, (.inr (ci, fs0) : va_E))])[i]?) = X.map some := by
    apply List.ext_getElem?
    intro i
    rw [List.getElem?_map, List.getElem?_map]
    by_cases h : i < X.length
    · rw [List.getElem?_range h]
      show some ((X ++ [(q, (.inr (ci, fs0) : va_E))])[i]?) = _
      rw [List.getElem?_append_left h, List.getElem?_eq_getElem h]
      rfl
    · rw [List.getElem?_eq_none (by rw [List.length_range]; omega), List.getElem?_eq_none (by omega)]
      rfl
  have hPc : va_P D vwCl [(q, .inr (ci, fs0))] H := fun k x hk => by
    have h0 : k < 1 := (List.getElem?_eq_some_iff.mp hk).1
    rw [show k = 0 by omega] at hk
    cases hk
    exact hP _ _ hlast
  have hDc : va_D A [(q, .inr (ci, fs0))] := hD.sub [X.length] rfl hisC
  have hFc := va_free (wc := [(q, .inr (ci, fs0))]) hD hS hA [X.length] hisC
  refine va_callv (va_runIN (As := av) (rest := rest) ⟨hx, hb, hml, hown, hts⟩ (hM q H.size) ⟨va_cnB n hts hGd rfl hrm.1 hrm.2 hN (hts _ (hw _ (by simp))) hd hR, hy1, hts _ (hw _ (by simp))⟩
    ⟨fun a U g mk z => by obtain ⟨q0, q1, qP, qK, qD, qA⟩ := z; exact ⟨q0, q1, qP, va_K.moved (u := U) (U := U.calling g mk a) (Vm.Alike.refl U.vm) qK, qD, qA.same rfl⟩, fun U hU hW => ⟨rfl, by rw [hU], by rw [hU]; exact hPc, va_K.moved hW.alike hK, hDc.weaken (fun _ _ _ _ => trivial), hAO.warm hW⟩⟩ rfl hav hl hst (lv_room hrest) hdec hf) hS (fun q _ h => hFc q h) hFc (fun w t H1 locs1 ht hvm hG hB hz1 hk1 hS1 => ?_)
  obtain ⟨hP1, -, hD1⟩ := hB
  rw [ht] at hP1
  have hnd : va_nd (List.range X.length) = true := va_nd_range X.length
  obtain ⟨hP2, hD2⟩ := va_join (wr := X) (w1 := w) hP hD [X.length] (List.range X.length) hisC hisR hnd (fun i hi => by
    have := List.mem_range.mp hi
    simp
    omega) hk1 hFc hP1 hD1
  exact kk w H1 locs1 hG hP2 hD2 hS1
end CTOR
