/-! calls of the JDK by contract: Math.max, Math.min, System.arraycopy -/
theorem dk_fm_all {P : Nat → dk_M → Prop} : ∀ {T : dk_T}, (∀ x ∈ T, P x.1 x.2) → ∀ idx M, dk_fm T idx = some M → P idx M := by
  intro T
  induction T with
  | nil => intro _ idx M h; cases h
  | cons x r ih =>
    intro h idx M hM
    obtain ⟨p, y⟩ := x
    unfold dk_fm at hM
    cases hb : Nat.beq p idx with
    | true =>
      rw [hb] at hM
      have hM : some y = some M := hM
      cases hM
      have := Nat.eq_of_beq_eq_true hb
      subst this
      exact h _ List.mem_cons_self
    | false =>
      rw [hb] at hM
      exact ih (fun x hx => h x (List.mem_cons_of_mem _ hx)) idx M hM
theorem dk_st2 {st : List dk_V} {a b : dk_V} (h1 : 2 ≤ st.length) (h : (st.take 2).reverse = [a, b]) : ∃ r, st = b :: a :: r ∧ st.drop 2 = r := by
  cases st with
  | nil => simp at h1
  | cons x st =>
    cases st with
    | nil => simp at h1
    | cons y r =>
      have h : [y, x] = [a, b] := h
      cases h
      exact ⟨r, rfl, rfl⟩
section LIB
variable {l : Launch} {D : va_G} {cI cZ cR : ClassId} {ad : Nat → Nat} {R : Room} {own : String} {cc : ByteArray} {nL idx : Nat}
theorem dk_callee_max (hw : ∀ w ∈ ([.methodLink own idx Lib.Math.max.name, .static Lib.Math.max.name, .initialized "java/lang/Math", .code Lib.Math.max.name Lib.Math.max.code 2 (some .int)] : List Cond), w ∈ wsL_law) (hR : 1 ≤ R.frames ∧ 21 ≤ R.locals) : dk_callee l D cI cZ cR ad R own cc nL (.invokestatic idx) sp_max := by
  intro p e s m args below meth c Q A hc pc hdec lo st σ K h hk H locs ls hP hD hS hl
  obtain ⟨hx, hb, hml, hown, hts, hK, hnst, hA⟩ := hc
  obtain ⟨h1, h2, ⟨x, hxx, -⟩, hpost⟩ := h
  obtain ⟨r, hr, hd⟩ := dk_st2 h1 hxx
  have hlen : r.length ≤ 8 := by
    have h2 : st.length ≤ 2 + 8 := h2
    rw [hr] at h2
    simp only [List.length_cons] at h2
    omega
  have key := hpost (if x.1 < x.2 then x.2 else x.1) σ (fun x' e' => by
    have : x' = x := by
      have e2 := hxx.symm.trans e'
      cases x; cases x'; cases e2; rfl
    rw [this]
    exact ⟨rfl, rfl⟩)
  have key := hk _ _ key
  have ed : st.drop 2 = r := hd
  have key : dk_mok p l e R s m args below meth c Q D cI cZ cR ad A nL (pc + 3) lo (.inl (if x.1 < x.2 then x.2 else x.1) :: st.drop 2) σ := key
  rw [ed] at key
  rw [hr]
  exact va_mmax (rest := r.map (dk_v ad)) hx hb (by rw [hml, hl.1]) hown (hts _ (hw _ (by simp))) (hts _ (hw _ (by simp))) (hts _ (hw _ (by simp))) (hts _ (hw _ (by simp))) hR.1 (by rw [dk_catsum]; omega) (Nat.zero_le _) (Nat.zero_le _) hdec (key H locs ls hP hD hS hl)
theorem dk_callee_min (hw : ∀ w ∈ ([.methodLink own idx Lib.Math.min.name, .static Lib.Math.min.name, .initialized "java/lang/Math", .code Lib.Math.min.name Lib.Math.min.code 2 (some .int)] : List Cond), w ∈ wsL_law) (hR : 1 ≤ R.frames ∧ 21 ≤ R.locals) : dk_callee l D cI cZ cR ad R own cc nL (.invokestatic idx) sp_min := by
  intro p e s m args below meth c Q A hc pc hdec lo st σ K h hk H locs ls hP hD hS hl
  obtain ⟨hx, hb, hml, hown, hts, hK, hnst, hA⟩ := hc
  obtain ⟨h1, h2, ⟨x, hxx, -⟩, hpost⟩ := h
  obtain ⟨r, hr, hd⟩ := dk_st2 h1 hxx
  have hlen : r.length ≤ 8 := by
    have h2 : st.length ≤ 2 + 8 := h2
    rw [hr] at h2
    simp only [List.length_cons] at h2
    omega
  have key := hpost (if x.2 < x.1 then x.2 else x.1) σ (fun x' e' => by
    have : x' = x := by
      have e2 := hxx.symm.trans e'
      cases x; cases x'; cases e2; rfl
    rw [this]
    exact ⟨rfl, rfl⟩)
  have key := hk _ _ key
  have ed : st.drop 2 = r := hd
  have key : dk_mok p l e R s m args below meth c Q D cI cZ cR ad A nL (pc + 3) lo (.inl (if x.2 < x.1 then x.2 else x.1) :: st.drop 2) σ := key
  rw [ed] at key
  rw [hr]
  exact va_mmin (rest := r.map (dk_v ad)) hx hb (by rw [hml, hl.1]) hown (hts _ (hw _ (by simp))) (hts _ (hw _ (by simp))) (hts _ (hw _ (by simp))) (hts _ (hw _ (by simp))) hR.1 (by rw [dk_catsum]; omega) (Nat.zero_le _) (Nat.zero_le _) hdec (key H locs ls hP hD hS hl)
theorem dk_callee_copy (hw : ∀ w ∈ ([.methodLink own idx arraycopyName, .native arraycopyName, .static arraycopyName, .initialized "java/lang/System"] : List Cond), w ∈ wsL_law) (hR : 1 ≤ R.frames ∧ 26 ≤ R.locals) : dk_callee l D cI cZ cR ad R own cc nL (.invokestatic idx) sp_copy := by
  intro p e s m args below meth c Q A hc pc hdec lo st σ K h hk H locs ls hP hD hS hl
  obtain ⟨hx, hb, hml, hown, hts, hK, hnst, hA⟩ := hc
  obtain ⟨h1, h2, ⟨x, hxx, a1, a2⟩, hpost⟩ := h
  have hst : st.take 5 = [.inl 31, .inl 0, .inr x.2, .inl 0, .inr x.1] := by
    have h := congrArg List.reverse hxx
    rw [List.reverse_reverse] at h
    exact h
  have hr : st = .inl 31 :: .inl 0 :: .inr x.2 :: .inl 0 :: .inr x.1 :: st.drop 5 := by
    have h := List.take_append_drop 5 st
    rw [hst] at h
    exact h.symm
  have hlen : (st.drop 5).length ≤ 8 := by
    have h2 : st.length ≤ 5 + 8 := h2
    rw [List.length_drop]
    omega
  have key := hpost 0 (dk_up σ x.2 (fun j => if j < 31 then σ x.1 j else σ x.2 j)) (fun x' e' => by
    have : x' = x := by
      have e2 := hxx.symm.trans e'
      cases x; cases x'; cases e2; rfl
    rw [this])
  have key := hk _ _ key
  have key : dk_mok p l e R s m args below meth c Q D cI cZ cR ad A nL (pc + 3) lo (st.drop 5) (dk_up σ x.2 (fun j => if j < 31 then σ x.1 j else σ x.2 j)) := key
  have g0 := dk_W_get (cI := cI) (cZ := cZ) (cR := cR) (ad := ad) (σ := σ) (dk_arr_lt a1)
  rw [dk_cell_int a1] at g0
  have g1 := dk_W_get (cI := cI) (cZ := cZ) (cR := cR) (ad := ad) (σ := σ) (dk_arr_lt a2)
  rw [dk_cell_int a2] at g1
  rw [hr]
  have ecp : va_cpy (σ x.1) (σ x.2) (0 : Int32).toNatClampNeg (0 : Int32).toNatClampNeg (31 : Int32).toNatClampNeg = fun j => if j < 31 then σ x.1 j else σ x.2 j := by
    funext j
    show (if 0 ≤ j ∧ j < 0 + 31 then σ x.1 (0 + (j - 0)) else σ x.2 j) = _
    by_cases h : j < 31
    · rw [if_pos ⟨Nat.zero_le _, by omega⟩, if_pos h, Nat.zero_add, Nat.sub_zero]
    · rw [if_neg (fun q => h (by omega)), if_neg h]
  have hws : (dk_W cI cZ cR ad σ).set x.2 (ad x.2, .inl (cI, 31, .inl (va_cpy (σ x.1) (σ x.2) (0 : Int32).toNatClampNeg (0 : Int32).toNatClampNeg (31 : Int32).toNatClampNeg))) = dk_W cI cZ cR ad (dk_up σ x.2 (fun j => if j < 31 then σ x.1 j else σ x.2 j)) := by
    apply dk_W_set
    rw [dk_cell_int a2, dk_up_self, ecp]
  have hloc : (((st.drop 5).map (dk_v ad)).map fun v => v.category).sum + (nativeFrameWords "java/lang/System" "arraycopy" 5 + 11) ≤ R.locals := by
    have hnf : nativeFrameWords "java/lang/System" "arraycopy" 5 = 7 := by decide
    rw [dk_catsum, hnf]
    omega
  exact va_copyi (own := own) (index := idx) (rest := (st.drop 5).map (dk_v ad)) (sp := 0) (dp := 0) (n := 31) hx hb (by rw [hml, hl.1]) hown (hts _ (hw _ (by simp))) (hts _ (hw _ (by simp))) (hts _ (hw _ (by simp))) (hts _ (hw _ (by simp))) hK hP hD hS x.1 x.2 0 0 g0 g1 rfl rfl rfl (by decide) (by decide) (by decide) (by decide) (by decide) (fun _ _ => rfl) hR.1 hloc hdec (fun H1 locs1 hP1 hD1 hS1 => by
    rw [hws] at hP1 hD1
    exact key H1 locs1 ls hP1 hD1 hS1 hl)
end LIB
