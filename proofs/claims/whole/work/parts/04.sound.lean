section DKS
variable {p : Program} {l : Launch} {e : Env} {R : Room} {s : State} {m : MethodId} {args : Array Value} {below : List Frame} {meth : Method} {c : Code} {Q : State → Prop} {D : va_G} {cI cZ cR : ClassId} {ad : Nat → Nat} {A : Nat → Prop} {nL : Nat}
/-- the machine goes well from here -/
def dk_mok (p : Program) (l : Launch) (e : Env) (R : Room) (s : State) (m : MethodId) (args : Array Value) (below : List Frame) (meth : Method) (c : Code) (Q : State → Prop) (D : va_G) (cI cZ cR : ClassId) (ad : Nat → Nat) (A : Nat → Prop) (nL : Nat) : Nat → dk_L → List dk_V → dk_S → Prop := fun pc lo st σ =>
  ∀ (H : Heap) (locs : List Loc) (ls : Array Slot), va_P D vwCl (dk_W cI cZ cR ad σ) H → va_D A (dk_W cI cZ cR ad σ) → va_S A s.heap H locs → lv_has ls nL (lo.map fun q => (q.1, dk_v ad q.2)) → W p l e R s m args below meth c H locs 0 0 Q (F0 m pc ls (st.map (dk_v ad)))
/-- what is known of a method's frame all along -/
def dk_ctx (p : Program) (s : State) (m : MethodId) (args : Array Value) (c : Code) (D : va_G) (cI cZ cR : ClassId) (A : Nat → Prop) (own : String) (cc : ByteArray) (nL : Nat) : Prop :=
  p.tables.exec = Jvm.exec ∧ c.code = cc ∧ c.maxLocals = nL ∧ s.vm.findClass own = some m.cls ∧ (∀ w ∈ wsL_law, w.before args s = true) ∧ va_K D vwCl (dk_tys cI cZ cR) s ∧ dk_nest s ∧ ∀ q, s.heap.size ≤ q → A q
/-- a call that goes by a contract -/
def dk_callee (l : Launch) (D : va_G) (cI cZ cR : ClassId) (ad : Nat → Nat) (R : Room) (own : String) (cc : ByteArray) (nL : Nat) (ins : Instr) (M : dk_M) : Prop :=
  ∀ (p : Program) (e : Env) (s : State) (m : MethodId) (args : Array Value) (below : List Frame) (meth : Method) (c : Code) (Q : State → Prop) (A : Nat → Prop), dk_ctx p s m args c D cI cZ cR A own cc nL → ∀ pc : Nat, decode cc pc = .ok (ins, 3) → ∀ (lo : dk_L) (st : List dk_V) (σ : dk_S) (K : List dk_V → dk_S → Prop), dk_call M st σ K →
    (∀ st' σ', K st' σ' → dk_mok p l e R s m args below meth c Q D cI cZ cR ad A nL (pc + 3) lo st' σ') → dk_mok p l e R s m args below meth c Q D cI cZ cR ad A nL pc lo st σ
theorem dk_lat {ls : Array Slot} {lo : dk_L} {i : Nat} {v : dk_V} (hl : lv_has ls nL (lo.map fun q => (q.1, dk_v ad q.2))) (h : dk_look lo i = some v) : ls[i]? = some (.val (dk_v ad v)) :=
  hl.2.2 (i, dk_v ad v) (List.mem_map.mpr ⟨(i, v), dk_look_mem h, rfl⟩)
theorem dk_lset {ls : Array Slot} {lo : dk_L} {i : Nat} {v : Int32} (h : lv_has ls nL ((i, Value.int v) :: (lo.map fun q => (q.1, dk_v ad q.2)).filter (fun q => !(q.1 == i) && !(q.1 + 1 == i && q.2.category == 2)))) : lv_has ls nL ((dk_set lo i (.inl v)).map fun q => (q.1, dk_v ad q.2)) := by
  refine ⟨h.1, h.2.1, fun q hq => ?_⟩
  obtain ⟨x, hx, rfl⟩ := List.mem_map.mp hq
  rcases dk_set_mem hx with rfl | ⟨h1, h2⟩
  · exact h.2.2 _ List.mem_cons_self
  · refine h.2.2 _ (List.mem_cons_of_mem _ (List.mem_filter.mpr ⟨List.mem_map.mpr ⟨x, h1, rfl⟩, ?_⟩))
    simp [h2, dk_v_cat]
theorem dk_lsub {ls : Array Slot} {lo lo' : dk_L} (hs : ∀ q ∈ lo', q ∈ lo) (h : lv_has ls nL (lo.map fun q => (q.1, dk_v ad q.2))) : lv_has ls nL (lo'.map fun q => (q.1, dk_v ad q.2)) := by
  refine ⟨h.1, h.2.1, fun q hq => ?_⟩
  obtain ⟨x, hx, rfl⟩ := List.mem_map.mp hq
  exact h.2.2 _ (List.mem_map.mpr ⟨x, hs x hx, rfl⟩)
theorem dk_sw_at {K : Nat → Prop} {pc : Nat} {x : Int32} : ∀ {os : List Int} {lo : Int} {j : Nat} {o : Int}, dk_sw K pc x lo os → os[j]? = some o → x.toInt = lo + j → 0 ≤ (pc : Int) + o ∧ K ((pc : Int) + o).toNat := by
  intro os
  induction os with
  | nil => intro lo j o _ h; simp at h
  | cons q r ih =>
    intro lo j o h hj hx
    obtain ⟨h1, h2⟩ := h
    cases j with
    | zero =>
      simp at hj
      subst hj
      exact h1 (by omega)
    | succ j => exact ih h2 (by simpa using hj) (by omega)
theorem dk_aldq {cc : ByteArray} {pc : Nat} {ls : Array Slot} {rest : List Value} {cl : List vw_C} {a : Nat} {tys : List (ClassId × FieldType)} {ws : va_W} {H : Heap} {locs : List Loc} {cells slots : Nat} (hexec : p.tables.exec = Jvm.exec) (hb : c.code = cc) (hK : va_K D cl tys s) (hP : va_P D cl ws H) (q0 t0 : Nat) {cA : ClassId} {n : Nat} {f : Nat → Option Nat} (ha : ws[q0]? = some (a, .inl (cA, n, .inr (.inr (.inr (.inr f)))))) (ht : tys[t0]? = some (cA, .array .int)) {i : Int32} (hin : vp_in i n) (hdg : decode cc pc = .ok (.aaload, 1))
    (kk : W p l e R s m args below meth c H locs cells slots Q (F0 m (pc + 1) ls (va_rf (f i.toNatClampNeg) :: rest))) : W p l e R s m args below meth c H locs cells slots Q (F0 m pc ls (.int i :: .ref a :: rest)) := by
  have hlt : i.toNatClampNeg < n := Nat.not_le.mp fun q => hin (Or.inr q)
  exact W.aald (v := va_rf (f i.toNatClampNeg)) (ty := .array .int) hexec hb (hP q0 _ ha) ((hK.2 t0 _ ht).1 n (fun j => va_rf (f j))) rfl (fun q => by cases q) (by show ¬ (i < 0 ∨ (arrV _ _ _).slots.size ≤ _); rw [arrV_size]; exact hin) (by show (arrV _ _ _).slots[_]? = _; rw [arrV_read _ _ hlt]) rfl rfl hdg kk
set_option maxRecDepth 100000 in
set_option maxHeartbeats 4000000 in
theorem dk_sound {G : dk_G} {Post : Int32 → dk_S → Prop} {own : String} {cc : ByteArray} (vd : Bool) (hc : dk_ctx p s m args c D cI cZ cR A own cc nL) (hnL : G.2.2.2.2.2.1 = nL) (hcode : G.1.all (dk_chk cc vd) = true) (hfld : ∀ x ∈ G.2.1, dk_fldok own x) (hcon : ∀ x ∈ G.2.2.2.2.1, Cond.constant own x.1 x.2 ∈ wsL_law)
    (hV : ∀ idx M, dk_fm G.2.2.1 idx = some M → dk_callee l D cI cZ cR ad R own cc nL (.invokevirtual idx) M) (hSt : ∀ idx M, dk_fm G.2.2.2.1 idx = some M → dk_callee l D cI cZ cR ad R own cc nL (.invokestatic idx) M)
    (hri : vd = false → ∀ (v : Int32) (σ : dk_S) (H : Heap) (locs : List Loc) (ls : Array Slot) (pc : Nat), Post v σ → (G.2.2.2.2.2.2 = true → v = 0 ∨ v = 1) → va_P D vwCl (dk_W cI cZ cR ad σ) H → va_D A (dk_W cI cZ cR ad σ) → va_S A s.heap H locs → decode cc pc = .ok (.ireturn, 1) → W p l e R s m args below meth c H locs 0 0 Q (F0 m pc ls [.int v]))
    (hrv : vd = true → ∀ (σ : dk_S) (H : Heap) (locs : List Loc) (ls : Array Slot) (pc : Nat), Post 0 σ → va_P D vwCl (dk_W cI cZ cR ad σ) H → va_D A (dk_W cI cZ cR ad σ) → va_S A s.heap H locs → decode cc pc = .ok (.return_, 1) → W p l e R s m args below meth c H locs 0 0 Q (F0 m pc ls [])) :
    dk_ok G Post (dk_mok p l e R s m args below meth c Q D cI cZ cR ad A nL) := by
  have hc0 := hc
  obtain ⟨hx, hb, hml, hown, hts, hK, hnst, hA⟩ := hc
  refine ⟨fun K hKK pc lo st σ h => ?_, fun pc lo lo' st σ hs h H locs ls hP hD hS hl => h H locs ls hP hD hS (dk_lsub hs hl)⟩
  unfold dk_step at h
  cases hf : dk_find G.1 pc with
  | none => rw [hf] at h; exact h.elim
  | some x =>
    obtain ⟨i, n, t⟩ := x
    rw [hf] at h
    have hch := List.all_eq_true.mp hcode _ (dk_find_mem hf)
    unfold dk_chk at hch
    simp only [Bool.and_eq_true, decide_eq_true_eq, Bool.or_eq_true, beq_iff_eq] at hch
    obtain ⟨⟨⟨hd, hn⟩, ho⟩, hr⟩ := hch
    cases i with
    | aload_n x =>
      have hn : n = 1 := hn.resolve_right (by intro hh; cases hh)
      subst hn
      dsimp only at h
      cases hk : dk_look lo x.val with
      | none => rw [hk] at h; exact h.elim
      | some v =>
        rw [hk] at h
        cases v with
        | inl v => exact h.elim
        | inr k =>
          intro H locs ls hP hD hS hl
          exact lv_aload_n hx hb hd rfl (dk_lat hl hk) (hKK _ _ _ _ h H locs ls hP hD hS hl)
    | iload_n x =>
      have hn : n = 1 := hn.resolve_right (by intro hh; cases hh)
      subst hn
      dsimp only at h
      cases hk : dk_look lo x.val with
      | none => rw [hk] at h; exact h.elim
      | some v =>
        rw [hk] at h
        cases v with
        | inr v => exact h.elim
        | inl k =>
          intro H locs ls hP hD hS hl
          exact lv_iload_n hx hb hd rfl (dk_lat hl hk) (hKK _ _ _ _ h H locs ls hP hD hS hl)
    | iload x =>
      have hn : n = 2 := hn.resolve_right (by intro hh; cases hh)
      subst hn
      dsimp only at h
      cases hk : dk_look lo x with
      | none => rw [hk] at h; exact h.elim
      | some v =>
        rw [hk] at h
        cases v with
        | inr v => exact h.elim
        | inl k =>
          intro H locs ls hP hD hS hl
          exact lv_iload hx hb hd (dk_lat hl hk) (hKK _ _ _ _ h H locs ls hP hD hS hl)
    | istore_n x =>
      have hn : n = 1 := hn.resolve_right (by intro hh; cases hh)
      subst hn
      rcases st with _ | ⟨v | v, r⟩ <;> dsimp only at h <;> try exact h.elim
      intro H locs ls hP hD hS hl
      exact lv_istore_n hx hb hd rfl hl (by rw [← hnL]; exact h.1) rfl (fun ls' hl' => hKK _ _ _ _ h.2 H locs ls' hP hD hS (dk_lset hl'))
    | istore x =>
      have hn : n = 2 := hn.resolve_right (by intro hh; cases hh)
      subst hn
      rcases st with _ | ⟨v | v, r⟩ <;> dsimp only at h <;> try exact h.elim
      intro H locs ls hP hD hS hl
      exact lv_istore hx hb hd hl (by rw [← hnL]; exact h.1) rfl (fun ls' hl' => hKK _ _ _ _ h.2 H locs ls' hP hD hS (dk_lset hl'))
    | iinc x d =>
      have hn : n = 3 := hn.resolve_right (by intro hh; cases hh)
      subst hn
      dsimp only at h
      cases hk : dk_look lo x with
      | none => rw [hk] at h; exact h.elim
      | some v =>
        rw [hk] at h
        cases v with
        | inr v => exact h.elim
        | inl v =>
          intro H locs ls hP hD hS hl
          obtain ⟨k, hk2⟩ := List.getElem?_of_mem (List.mem_map.mpr ⟨(x, .inl v), dk_look_mem hk, rfl⟩ : (x, Value.int v) ∈ lo.map fun q => (q.1, dk_v ad q.2))
          exact lv_iinc hx hb hd hl hk2 rfl (by rw [← hnL]; exact h.1) rfl (fun ls' hl' => hKK _ _ _ _ h.2 H locs ls' hP hD hS (dk_lset hl'))
    | iconst x =>
      have hn : n = 1 := hn.resolve_right (by intro hh; cases hh)
      subst hn
      intro H locs ls hP hD hS hl
      exact lv_iconst hx hb hd rfl (hKK _ _ _ _ h H locs ls hP hD hS hl)
    | bipush x =>
      have hn : n = 2 := hn.resolve_right (by intro hh; cases hh)
      subst hn
      intro H locs ls hP hD hS hl
      exact lv_bipush hx hb hd rfl (hKK _ _ _ _ h H locs ls hP hD hS hl)
    | sipush x =>
      have hn : n = 3 := hn.resolve_right (by intro hh; cases hh)
      subst hn
      intro H locs ls hP hD hS hl
      exact lv_sipush hx hb hd rfl (hKK _ _ _ _ h H locs ls hP hD hS hl)
    | ldc x =>
      have hn : n = 2 := hn.resolve_right (by intro hh; cases hh)
      subst hn
      dsimp only at h
      cases hk : dk_fc G.2.2.2.2.1 x with
      | none => rw [hk] at h; exact h.elim
      | some v =>
        rw [hk] at h
        intro H locs ls hP hD hS hl
        exact lv_ldc hx hb hown (hts _ (hcon _ (dk_fc_mem hk))) hd (hKK _ _ _ _ h H locs ls hP hD hS hl)
    | ldc_w x =>
      have hn : n = 3 := hn.resolve_right (by intro hh; cases hh)
      subst hn
      dsimp only at h
      cases hk : dk_fc G.2.2.2.2.1 x with
      | none => rw [hk] at h; exact h.elim
      | some v =>
        rw [hk] at h
        intro H locs ls hP hD hS hl
        exact lv_ldcw hx hb hown (hts _ (hcon _ (dk_fc_mem hk))) hd (hKK _ _ _ _ h H locs ls hP hD hS hl)
    | dup =>
      have hn : n = 1 := hn.resolve_right (by intro hh; cases hh)
      subst hn
      rcases st with _ | ⟨v, r⟩ <;> dsimp only at h <;> try exact h.elim
      intro H locs ls hP hD hS hl
      exact lv_dup hx hb hd (dk_v_cat ad v) (hKK _ _ _ _ h H locs ls hP hD hS hl)
    | dup2 =>
      have hn : n = 1 := hn.resolve_right (by intro hh; cases hh)
      subst hn
      rcases st with _ | ⟨v, _ | ⟨w, r⟩⟩ <;> dsimp only at h <;> try exact h.elim
      intro H locs ls hP hD hS hl
      exact lv_dup2_11 hx hb hd (dk_v_cat ad v) (dk_v_cat ad w) (hKK _ _ _ _ h H locs ls hP hD hS hl)
    | pop =>
      have hn : n = 1 := hn.resolve_right (by intro hh; cases hh)
      subst hn
      rcases st with _ | ⟨v, r⟩ <;> dsimp only at h <;> try exact h.elim
      intro H locs ls hP hD hS hl
      exact lv_pop hx hb hd (dk_v_cat ad v) (hKK _ _ _ _ h H locs ls hP hD hS hl)
    | idiv =>
      have hn : n = 1 := hn.resolve_right (by intro hh; cases hh)
      subst hn
      rcases st with _ | ⟨y | y, _ | ⟨x | x, r⟩⟩ <;> dsimp only at h <;> try exact h.elim
      intro H locs ls hP hD hS hl
      exact lv_idiv hx hb hd h.1 (hKK _ _ _ _ h.2 H locs ls hP hD hS hl)
    | irem =>
      have hn : n = 1 := hn.resolve_right (by intro hh; cases hh)
      subst hn
      rcases st with _ | ⟨y | y, _ | ⟨x | x, r⟩⟩ <;> dsimp only at h <;> try exact h.elim
      intro H locs ls hP hD hS hl
      exact lv_irem hx hb hd h.1 (hKK _ _ _ _ h.2 H locs ls hP hD hS hl)
    | getfield x =>
      have hn : n = 3 := hn.resolve_right (by intro hh; cases hh)
      subst hn
      rcases st with _ | ⟨k | k, r⟩ <;> dsimp only at h <;> try exact h.elim
      cases hfi : dk_ff G.2.1 x with
      | none => rw [hfi] at h; exact h.elim
      | some fi =>
        obtain ⟨ci, j, b⟩ := fi
        cases hob : dk_obj k with
        | none => rw [hfi, hob] at h; exact h.elim
        | some o =>
          obtain ⟨cj, fs⟩ := o
          rw [hfi, hob] at h
          dsimp only at h
          cases hbq : Nat.beq ci cj with
          | false => rw [hbq] at h; exact h.elim
          | true =>
            have e := Nat.eq_of_beq_eq_true hbq
            subst e
            rw [hbq] at h
            obtain ⟨C, T, N, g1, g2, g3, -, -⟩ := hfld _ (dk_ff_mem hfi)
            obtain ⟨q1, -⟩ := dk_cls _ C T N g1
            intro H locs ls hP hD hS hl
            have hk81 := dk_obj_lt hob
            have hg := dk_W_get (cI := cI) (cZ := cZ) (cR := cR) (ad := ad) (σ := σ) hk81
            rw [dk_cell_obj hob] at hg
            cases hfj : fs[j]? with
            | none => rw [hfj] at h; exact h.elim
            | some o2 =>
              rw [hfj] at h
              cases o2 with
              | none =>
                have hv := dk_fv_int (ad := ad) (f := σ k) 0 j hfj
                rw [Nat.zero_add] at hv
                exact va_get hx hb hts q1 hown hK hP k hg g1 j g2 (hts _ g3) (fun _ z => z) hv hd (hKK _ _ _ _ h H locs ls hP hD hS hl)
              | some k2 => exact va_get hx hb hts q1 hown hK hP k hg g1 j g2 (hts _ g3) (fun _ z => z) (dk_fv_ref (f := σ k) 0 j hfj) hd (hKK _ _ _ _ h H locs ls hP hD hS hl)
    | putfield x =>
      have hn : n = 3 := hn.resolve_right (by intro hh; cases hh)
      subst hn
      rcases st with _ | ⟨v | v, _ | ⟨k | k, r⟩⟩ <;> dsimp only at h <;> try exact h.elim
      cases hfi : dk_ff G.2.1 x with
      | none => rw [hfi] at h; exact h.elim
      | some fi =>
        obtain ⟨ci, j, b⟩ := fi
        cases hob : dk_obj k with
        | none => rw [hfi, hob] at h; exact h.elim
        | some o =>
          obtain ⟨cj, fs⟩ := o
          rw [hfi, hob] at h
          dsimp only at h
          cases hbq : Nat.beq ci cj with
          | false => rw [hbq] at h; exact h.elim
          | true =>
            have e := Nat.eq_of_beq_eq_true hbq
            subst e
            rw [hbq] at h
            obtain ⟨C, T, N, g1, g2, g3, g4, g5⟩ := hfld _ (dk_ff_mem hfi)
            obtain ⟨q1, ty0, q2, q3⟩ := dk_cls _ C T N g1
            intro H locs ls hP hD hS hl
            have hk81 := dk_obj_lt hob
            have hg := dk_W_get (cI := cI) (cZ := cZ) (cR := cR) (ad := ad) (σ := σ) hk81
            rw [dk_cell_obj hob] at hg
            cases hfj : fs[j]? with
            | none => rw [hfj] at h; exact h.elim
            | some o2 =>
              rw [hfj] at h
              cases o2 with
              | some k2 => exact h.elim
              | none =>
                have hlen : j < (dk_fv ad (σ k) 0 fs).length := by
                  rw [dk_fv_len]
                  exact (List.getElem?_eq_some_iff.mp hfj).1
                have hws : (dk_W cI cZ cR ad σ).set k (ad k, .inr (ci, (dk_fv ad (σ k) 0 fs).set j (.int v))) = dk_W cI cZ cR ad (dk_up σ k (upd (σ k) j v)) := by
                  apply dk_W_set
                  rw [dk_cell_obj hob, dk_up_self, dk_fv_set 0 j hfj, Nat.zero_add]
                match b, h, g4, g5 with
                | 1, h, g4, _ =>
                  obtain ⟨g6, g7⟩ := g4 rfl
                  refine va_put hx hb hts q1 ty0 q2 q3 hown hK hP hD hS k hg g1 j g2 (hts _ g3) (fun _ z => z) g6 g7 rfl rfl hlen hd (fun H1 locs1 hP1 hD1 hS1 => ?_)
                  have hP1 : va_P D vwCl ((dk_W cI cZ cR ad σ).set k (ad k, .inr (ci, (dk_fv ad (σ k) 0 fs).set j (.int v)))) H1 := hP1
                  have hD1 : va_D A ((dk_W cI cZ cR ad σ).set k (ad k, .inr (ci, (dk_fv ad (σ k) 0 fs).set j (.int v)))) := hD1
                  rw [hws] at hP1 hD1
                  exact hKK _ _ _ _ h H1 locs1 ls hP1 hD1 hS1 hl
                | 2, h, _, g5 =>
                  obtain ⟨g6, g7⟩ := g5 rfl
                  obtain ⟨hv, h⟩ := h
                  refine va_put hx hb hts q1 ty0 q2 q3 hown hK hP hD hS k hg g1 j g2 (hts _ g3) (fun _ z => z) g6 g7 (by rcases hv with rfl | rfl <;> rfl) (by rcases hv with rfl | rfl <;> rfl) hlen hd (fun H1 locs1 hP1 hD1 hS1 => ?_)
                  have hP1 : va_P D vwCl ((dk_W cI cZ cR ad σ).set k (ad k, .inr (ci, (dk_fv ad (σ k) 0 fs).set j (.int v)))) H1 := hP1
                  have hD1 : va_D A ((dk_W cI cZ cR ad σ).set k (ad k, .inr (ci, (dk_fv ad (σ k) 0 fs).set j (.int v)))) := hD1
                  rw [hws] at hP1 hD1
                  exact hKK _ _ _ _ h H1 locs1 ls hP1 hD1 hS1 hl
                | 0, h, _, _ => exact h.elim
                | b + 3, h, _, _ => exact h.elim
    | iaload =>
      have hn : n = 1 := hn.resolve_right (by intro hh; cases hh)
      subst hn
      rcases st with _ | ⟨i | i, _ | ⟨k | k, r⟩⟩ <;> dsimp only at h <;> try exact h.elim
      obtain ⟨N, h1, h2, h⟩ := h
      intro H locs ls hP hD hS hl
      have hg := dk_W_get (cI := cI) (cZ := cZ) (cR := cR) (ad := ad) (σ := σ) (dk_arr_lt h1)
      rw [dk_cell_int h1] at hg
      exact va_iald hx hb hK hP k 0 hg rfl h2 hd (hKK _ _ _ _ h H locs ls hP hD hS hl)
    | baload =>
      have hn : n = 1 := hn.resolve_right (by intro hh; cases hh)
      subst hn
      rcases st with _ | ⟨i | i, _ | ⟨k | k, r⟩⟩ <;> dsimp only at h <;> try exact h.elim
      obtain ⟨N, h1, h2, h⟩ := h
      intro H locs ls hP hD hS hl
      have hg := dk_W_get (cI := cI) (cZ := cZ) (cR := cR) (ad := ad) (σ := σ) (dk_arr_lt h1)
      rw [dk_cell_bool h1] at hg
      exact va_zald hx hb hK hP k 1 hg rfl h2 hd (hKK _ _ _ _ h H locs ls hP hD hS hl)
    | iastore =>
      have hn : n = 1 := hn.resolve_right (by intro hh; cases hh)
      subst hn
      rcases st with _ | ⟨v | v, _ | ⟨i | i, _ | ⟨k | k, r⟩⟩⟩ <;> dsimp only at h <;> try exact h.elim
      obtain ⟨N, h1, h2, h⟩ := h
      intro H locs ls hP hD hS hl
      have hg := dk_W_get (cI := cI) (cZ := cZ) (cR := cR) (ad := ad) (σ := σ) (dk_arr_lt h1)
      rw [dk_cell_int h1] at hg
      have hws : (dk_W cI cZ cR ad σ).set k (ad k, .inl (cI, N, .inl (upd (σ k) i.toNatClampNeg v))) = dk_W cI cZ cR ad (dk_up σ k (upd (σ k) i.toNatClampNeg v)) := by
        apply dk_W_set
        rw [dk_cell_int h1, dk_up_self]
      refine va_iast hx hb hK hP hD hS k 0 hg rfl h2 hd (fun H1 locs1 hP1 hD1 hS1 => ?_)
      rw [hws] at hP1 hD1
      exact hKK _ _ _ _ h H1 locs1 ls hP1 hD1 hS1 hl
    | bastore =>
      have hn : n = 1 := hn.resolve_right (by intro hh; cases hh)
      subst hn
      rcases st with _ | ⟨v | v, _ | ⟨i | i, _ | ⟨k | k, r⟩⟩⟩ <;> dsimp only at h <;> try exact h.elim
      obtain ⟨N, h1, h2, h3, h⟩ := h
      intro H locs ls hP hD hS hl
      have hg := dk_W_get (cI := cI) (cZ := cZ) (cR := cR) (ad := ad) (σ := σ) (dk_arr_lt h1)
      rw [dk_cell_bool h1] at hg
      have hnv : vp_nar .boolean v = v := by rcases h3 with rfl | rfl <;> rfl
      have hws : (dk_W cI cZ cR ad σ).set k (ad k, .inl (cZ, N, .inl (upd (σ k) i.toNatClampNeg v))) = dk_W cI cZ cR ad (dk_up σ k (upd (σ k) i.toNatClampNeg v)) := by
        apply dk_W_set
        rw [dk_cell_bool h1, dk_up_self]
      refine va_zast hx hb hK hP hD hS k 1 hg rfl h2 hd (fun H1 locs1 hP1 hD1 hS1 => ?_)
      rw [hnv, hws] at hP1 hD1
      exact hKK _ _ _ _ h H1 locs1 ls hP1 hD1 hS1 hl
    | aaload =>
      have hn : n = 1 := hn.resolve_right (by intro hh; cases hh)
      subst hn
      rcases st with _ | ⟨i | i, _ | ⟨k | k, r⟩⟩ <;> dsimp only at h <;> try exact h.elim
      obtain ⟨h1, h2, h⟩ := h
      subst h1
      intro H locs ls hP hD hS hl
      have hg := dk_W_get (cI := cI) (cZ := cZ) (cR := cR) (ad := ad) (σ := σ) (k := 24) (by decide)
      rw [dk_cell_row] at hg
      have hlt : i.toNatClampNeg < 32 := Nat.not_le.mp fun q => h2 (Or.inr q)
      refine dk_aldq hx hb hK hP 24 2 hg rfl h2 hd ?_
      rw [if_pos hlt]
      exact hKK _ _ _ _ h H locs ls hP hD hS hl
    | arraylength =>
      have hn : n = 1 := hn.resolve_right (by intro hh; cases hh)
      subst hn
      rcases st with _ | ⟨k | k, r⟩ <;> dsimp only at h <;> try exact h.elim
      obtain ⟨b, N, h1, h⟩ := h
      intro H locs ls hP hD hS hl
      have hg := dk_W_get (cI := cI) (cZ := cZ) (cR := cR) (ad := ad) (σ := σ) (dk_arr_lt h1)
      cases b with
      | true =>
        rw [dk_cell_bool h1] at hg
        exact va_alen hx hb hK hP k 1 hg rfl rfl hd (hKK _ _ _ _ h H locs ls hP hD hS hl)
      | false =>
        rw [dk_cell_int h1] at hg
        exact va_alen hx hb hK hP k 0 hg rfl rfl hd (hKK _ _ _ _ h H locs ls hP hD hS hl)
    | goto o =>
      have hn : n = 3 := hn.resolve_right (by intro hh; cases hh)
      subst hn
      have ho2 : (pc : Int) + o = (t : Int) := by simpa [dk_off] using ho
      intro H locs ls hP hD hS hl
      exact lv_goto hx hb hd ho2 (hKK _ _ _ _ h H locs ls hP hD hS hl)
    | ifCond cnd o =>
      have hn : n = 3 := hn.resolve_right (by intro hh; cases hh)
      subst hn
      have ho2 : (pc : Int) + o = (t : Int) := by simpa [dk_off] using ho
      rcases st with _ | ⟨x | x, r⟩ <;> dsimp only at h <;> try exact h.elim
      obtain ⟨h1, h2⟩ := h
      intro H locs ls hP hD hS hl
      cases cnd with
      | eq => exact lv_if_eq hx hb hd ho2 (fun z => hKK _ _ _ _ (h1 z) H locs ls hP hD hS hl) (fun z => hKK _ _ _ _ (h2 z) H locs ls hP hD hS hl)
      | ne => exact lv_if_ne hx hb hd ho2 (fun z => hKK _ _ _ _ (h1 z) H locs ls hP hD hS hl) (fun z => hKK _ _ _ _ (h2 (fun q => q z)) H locs ls hP hD hS hl)
      | lt => exact lv_if_lt hx hb hd ho2 (fun z => hKK _ _ _ _ (h1 z) H locs ls hP hD hS hl) (fun z => hKK _ _ _ _ (h2 z) H locs ls hP hD hS hl)
      | ge => exact lv_if_ge hx hb hd ho2 (fun z => hKK _ _ _ _ (h1 z) H locs ls hP hD hS hl) (fun z => hKK _ _ _ _ (h2 z) H locs ls hP hD hS hl)
      | gt => exact lv_if_gt hx hb hd ho2 (fun z => hKK _ _ _ _ (h1 z) H locs ls hP hD hS hl) (fun z => hKK _ _ _ _ (h2 z) H locs ls hP hD hS hl)
      | le => exact lv_if_le hx hb hd ho2 (fun z => hKK _ _ _ _ (h1 z) H locs ls hP hD hS hl) (fun z => hKK _ _ _ _ (h2 z) H locs ls hP hD hS hl)
    | if_icmp cnd o =>
      have hn : n = 3 := hn.resolve_right (by intro hh; cases hh)
      subst hn
      have ho2 : (pc : Int) + o = (t : Int) := by simpa [dk_off] using ho
      rcases st with _ | ⟨y | y, _ | ⟨x | x, r⟩⟩ <;> dsimp only at h <;> try exact h.elim
      obtain ⟨h1, h2⟩ := h
      intro H locs ls hP hD hS hl
      cases cnd with
      | eq => exact lv_icmp_eq hx hb hd ho2 (fun z => hKK _ _ _ _ (h1 z) H locs ls hP hD hS hl) (fun z => hKK _ _ _ _ (h2 z) H locs ls hP hD hS hl)
      | ne => exact lv_icmp_ne hx hb hd ho2 (fun z => hKK _ _ _ _ (h1 z) H locs ls hP hD hS hl) (fun z => hKK _ _ _ _ (h2 (fun q => q z)) H locs ls hP hD hS hl)
      | lt => exact lv_icmp_lt hx hb hd ho2 (fun z => hKK _ _ _ _ (h1 z) H locs ls hP hD hS hl) (fun z => hKK _ _ _ _ (h2 z) H locs ls hP hD hS hl)
      | ge => exact lv_icmp_ge hx hb hd ho2 (fun z => hKK _ _ _ _ (h1 z) H locs ls hP hD hS hl) (fun z => hKK _ _ _ _ (h2 z) H locs ls hP hD hS hl)
      | gt => exact lv_icmp_gt hx hb hd ho2 (fun z => hKK _ _ _ _ (h1 z) H locs ls hP hD hS hl) (fun z => hKK _ _ _ _ (h2 z) H locs ls hP hD hS hl)
      | le => exact lv_icmp_le hx hb hd ho2 (fun z => hKK _ _ _ _ (h1 z) H locs ls hP hD hS hl) (fun z => hKK _ _ _ _ (h2 z) H locs ls hP hD hS hl)
    | tableswitch d lo2 hi os =>
      rcases st with _ | ⟨x | x, r⟩ <;> dsimp only at h <;> try exact h.elim
      obtain ⟨h1, h2, h3⟩ := h
      intro H locs ls hP hD hS hl
      by_cases hout : x.toInt < lo2 ∨ hi < x.toInt
      · obtain ⟨a1, a2⟩ := h1 hout
        exact lv_tableOut hx hb hd hout (by omega) (hKK _ _ _ _ a2 H locs ls hP hD hS hl)
      · have e1 : ¬ x.toInt < lo2 := fun z => hout (Or.inl z)
        have e2 : ¬ hi < x.toInt := fun z => hout (Or.inr z)
        have e3 : (x.toInt - lo2).toNat < os.toList.length := by omega
        have e4 : os.toList[(x.toInt - lo2).toNat]? = some os.toList[(x.toInt - lo2).toNat] := List.getElem?_eq_getElem e3
        obtain ⟨a1, a2⟩ := dk_sw_at h3 e4 (by omega)
        exact lv_tableIn hx hb hd e1 e2 (by rw [← Array.getElem?_toList]; exact e4) (by omega) (hKK _ _ _ _ a2 H locs ls hP hD hS hl)
    | invokevirtual x =>
      have hn : n = 3 := hn.resolve_right (by intro hh; cases hh)
      subst hn
      dsimp only at h
      cases hk : dk_fm G.2.2.1 x with
      | none => rw [hk] at h; exact h.elim
      | some M =>
        rw [hk] at h
        exact hV x M hk p e s m args below meth c Q A hc0 pc hd lo st σ _ h (fun st' σ' q => hKK _ _ _ _ q)
    | invokestatic x =>
      have hn : n = 3 := hn.resolve_right (by intro hh; cases hh)
      subst hn
      dsimp only at h
      cases hk : dk_fm G.2.2.2.1 x with
      | none => rw [hk] at h; exact h.elim
      | some M =>
        rw [hk] at h
        exact hSt x M hk p e s m args below meth c Q A hc0 pc hd lo st σ _ h (fun st' σ' q => hKK _ _ _ _ q)
    | ireturn =>
      have hn : n = 1 := hn.resolve_right (by intro hh; cases hh)
      subst hn
      have hvd : vd = false := by simpa [dk_rok] using hr
      rcases st with _ | ⟨v | v, _ | ⟨w, r⟩⟩ <;> dsimp only at h <;> try exact h.elim
      intro H locs ls hP hD hS hl
      cases hz : G.2.2.2.2.2.2 with
      | true =>
        rw [hz] at h
        exact hri hvd v σ H locs ls pc h.2 (fun _ => h.1) hP hD hS hd
      | false =>
        rw [hz] at h
        exact hri hvd v σ H locs ls pc h (fun q => by rw [hz] at q; cases q) hP hD hS hd
    | return_ =>
      have hn : n = 1 := hn.resolve_right (by intro hh; cases hh)
      subst hn
      have hvd : vd = true := by simpa [dk_rok] using hr
      rcases st with _ | ⟨v, r⟩ <;> dsimp only at h <;> try exact h.elim
      intro H locs ls hP hD hS hl
      exact hrv hvd σ H locs ls pc h hP hD hS hd
    | iadd =>
      have hn : n = 1 := hn.resolve_right (by intro hh; cases hh)
      subst hn
      rcases st with _ | ⟨y | y, _ | ⟨x | x, r⟩⟩ <;> dsimp only [dk_bin] at h <;> try exact h.elim
      intro H locs ls hP hD hS hl
      exact lv_iadd hx hb hd (hKK _ _ _ _ h H locs ls hP hD hS hl)
    | isub =>
      have hn : n = 1 := hn.resolve_right (by intro hh; cases hh)
      subst hn
      rcases st with _ | ⟨y | y, _ | ⟨x | x, r⟩⟩ <;> dsimp only [dk_bin] at h <;> try exact h.elim
      intro H locs ls hP hD hS hl
      exact lv_isub hx hb hd (hKK _ _ _ _ h H locs ls hP hD hS hl)
    | imul =>
      have hn : n = 1 := hn.resolve_right (by intro hh; cases hh)
      subst hn
      rcases st with _ | ⟨y | y, _ | ⟨x | x, r⟩⟩ <;> dsimp only [dk_bin] at h <;> try exact h.elim
      intro H locs ls hP hD hS hl
      exact lv_imul hx hb hd (hKK _ _ _ _ h H locs ls hP hD hS hl)
    | iand =>
      have hn : n = 1 := hn.resolve_right (by intro hh; cases hh)
      subst hn
      rcases st with _ | ⟨y | y, _ | ⟨x | x, r⟩⟩ <;> dsimp only [dk_bin] at h <;> try exact h.elim
      intro H locs ls hP hD hS hl
      exact lv_iand hx hb hd (hKK _ _ _ _ h H locs ls hP hD hS hl)
    | ior =>
      have hn : n = 1 := hn.resolve_right (by intro hh; cases hh)
      subst hn
      rcases st with _ | ⟨y | y, _ | ⟨x | x, r⟩⟩ <;> dsimp only [dk_bin] at h <;> try exact h.elim
      intro H locs ls hP hD hS hl
      exact lv_ior hx hb hd (hKK _ _ _ _ h H locs ls hP hD hS hl)
    | ixor =>
      have hn : n = 1 := hn.resolve_right (by intro hh; cases hh)
      subst hn
      rcases st with _ | ⟨y | y, _ | ⟨x | x, r⟩⟩ <;> dsimp only [dk_bin] at h <;> try exact h.elim
      intro H locs ls hP hD hS hl
      exact lv_ixor hx hb hd (hKK _ _ _ _ h H locs ls hP hD hS hl)
    | ishl =>
      have hn : n = 1 := hn.resolve_right (by intro hh; cases hh)
      subst hn
      rcases st with _ | ⟨y | y, _ | ⟨x | x, r⟩⟩ <;> dsimp only [dk_bin] at h <;> try exact h.elim
      intro H locs ls hP hD hS hl
      exact lv_ishl hx hb hd (hKK _ _ _ _ h H locs ls hP hD hS hl)
    | ishr =>
      have hn : n = 1 := hn.resolve_right (by intro hh; cases hh)
      subst hn
      rcases st with _ | ⟨y | y, _ | ⟨x | x, r⟩⟩ <;> dsimp only [dk_bin] at h <;> try exact h.elim
      intro H locs ls hP hD hS hl
      exact lv_ishr hx hb hd (hKK _ _ _ _ h H locs ls hP hD hS hl)
    | iushr =>
      have hn : n = 1 := hn.resolve_right (by intro hh; cases hh)
      subst hn
      rcases st with _ | ⟨y | y, _ | ⟨x | x, r⟩⟩ <;> dsimp only [dk_bin] at h <;> try exact h.elim
      intro H locs ls hP hD hS hl
      exact lv_iushr hx hb hd rfl (hKK _ _ _ _ h H locs ls hP hD hS hl)
    | _ =>
      exfalso
      rcases st with _ | ⟨y | y, _ | ⟨x | x, r⟩⟩ <;> dsimp only [dk_bin] at h <;> exact h
end DKS
