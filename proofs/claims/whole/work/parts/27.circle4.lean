/-! trace, Circle.find, stands -/
def psn (T : Nat → Nat) (p : Nat) (ε : Nat → Nat) : Nat → Nat
  | 0 => p
  | i + 1 => T (ε i)
def smn (G : Nat → Int) (ε : Nat → Nat) : Nat → Int
  | 0 => 0
  | i + 1 => smn G ε i + G (ε i)
/-- the edge e may follow: at the place q, with the sum a, so many left, back to p -/
def gn (ne : Nat) (A : Nat → Bool) (F T : Nat → Nat) (G : Nat → Int) (p left q : Nat) (a : Int) (e : Nat) : Prop := e < ne ∧ A e = true ∧ F e = q ∧ ∃ s, ws ne A F T G left (T e) p s ∧ 0 < a + G e + s
abbrev gnC (σ : dk_S) := gn (nE σ) (eA σ) (eF σ) (eT σ) (eG σ)
def TR (ne : Nat) (A : Nat → Bool) (F T : Nat → Nat) (G : Nat → Int) (k p : Nat) (ε : Nat → Nat) : Prop := ∀ i, i < k → isL (gn ne A F T G p (k - 1 - i) (psn T p ε i) (smn G ε i)) (ε i)
abbrev TRC (σ : dk_S) := TR (nE σ) (eA σ) (eF σ) (eT σ) (eG σ)
theorem psn_congr {T : Nat → Nat} {p : Nat} {ε ε' : Nat → Nat} : ∀ {i : Nat}, (∀ j, j < i → ε j = ε' j) → psn T p ε i = psn T p ε' i := by
  intro i
  cases i with
  | zero => intro _; rfl
  | succ i => intro h; simp only [psn]; rw [h i (by omega)]
theorem smn_congr {G : Nat → Int} {ε ε' : Nat → Nat} : ∀ {i : Nat}, (∀ j, j < i → ε j = ε' j) → smn G ε i = smn G ε' i := by
  intro i
  induction i with
  | zero => intro _; rfl
  | succ i ih => intro h; simp only [smn]; rw [ih (fun j hj => h j (by omega)), h i (by omega)]
/-- what trace stands on -/
def tp (σ : dk_S) (p k : Nat) : Prop := p < 31 ∧ σ 18 8 = nI p ∧ 1 ≤ k ∧ k ≤ 31 ∧ σ 18 9 = nI k ∧ PCC σ k p ∧ ∀ j, j < k → rb (σ (49 + j)) ∧ ∀ q, q < 31 → MxC σ j q p (σ (49 + j) q).toInt
abbrev sp_trace : dk_M := dk_sp 1 false (fun _ : Unit => [.inr 18]) (fun _ σ => NW σ ∧ EV σ ∧ σ 18 2 = 0 ∧ ∃ p k, tp σ p k)
  (fun _ σ _ σ' => ∀ p k, tp σ p k → ∃ N ε, σ' = dk_up (dk_up σ 19 N) 18 (upd (σ 18) 2 (nI k)) ∧ (∀ i, i < k → N i = nI (eN σ (ε i))) ∧ TRC σ k p ε)
set_option maxRecDepth 100000 in
set_option maxHeartbeats 4000000 in
theorem q_trace : dk_pure (kX1_trace, fX1, [(77, sp_leastEdge)], [], nX1, 5, false) sp_trace := by
  refine dk_sp_pure (fun _ _ _ => rfl) (fun _ => rfl) ?_
  rintro OK _ σ ⟨hN, hEV, h182, p, k, htp⟩ hC
  have htp0 := htp
  obtain ⟨hp, h188, hk1, hk2, h189, hPC, hrows⟩ := htp
  have hn := hN.n30
  have hm := hN.m120
  have hGb := eG_bd hN
  have huniq : ∀ p' k', tp σ p' k' → p' = p ∧ k' = k := by
    rintro p' k' ⟨q1, q2, q3, q4, q5, -⟩
    rw [h188, nI_eq (by omega) (by omega)] at q2
    rw [h189, nI_eq (by omega) (by omega)] at q5
    exact ⟨q2.symm, q5.symm⟩
  have u22 : ∀ a b : Int32, upd (upd (σ 18) 2 a) 2 b = upd (σ 18) 2 b := fun a b => by
    funext j; unfold upd; split <;> rfl
  have loop : ∀ (d i : Nat) (q : Nat) (a : Int32) (N : Nat → Int32) (ε : Nat → Nat), i + d = k → q < 31 → q = psn (eT σ) p ε i → a.toInt = smn (eG σ) ε i → -(1000 * (i : Int)) ≤ a.toInt → a.toInt ≤ 1000 * i → (∃ s, wsC σ (k - i) q p s ∧ 0 < a.toInt + s) → (∀ j, j < i → N j = nI (eN σ (ε j)) ∧ isL (gnC σ p (k - 1 - j) (psn (eT σ) p ε j) (smn (eG σ) ε j)) (ε j)) → OK 9 [(0, .inr 18), (1, .inl (nI q)), (2, .inl a), (3, .inl (nI i))] [] (dk_up (dk_up σ 19 N) 18 (upd (σ 18) 2 (nI i))) := by
    intro d
    induction d with
    | zero =>
      intro i q a N ε hi hq hpos hsum hb1 hb2 hex hdone
      refine hC.go (fun q => if q = 9 then some 4 else none) 60 ?_
      refine ⟨fun _ p' k' ht => ?_, fun h => ?_⟩
      · obtain ⟨rfl, rfl⟩ := huniq p' k' ht
        refine ⟨N, ε, by rw [show k' = i by omega], fun j hj => (hdone j (by omega)).1, fun j hj => (hdone j (by omega)).2⟩
      · exfalso
        apply h
        show σ 18 9 ≤ nI i
        rw [h189, show k = i by omega]
        exact Int32.le_refl _
    | succ d ih =>
      intro i q a N ε hi hq hpos hsum hb1 hb2 hex hdone
      have ei : (nI i).toNatClampNeg = i := nI_clamp (by omega)
      have eq' : (nI q).toNatClampNeg = q := nI_clamp (by omega)
      have el : σ 18 9 - 1 - nI i = nI (k - 1 - i) := by
        rw [h189]
        have h1 := nI_pred (k - 1)
        rw [show k - 1 + 1 = k by omega] at h1
        rw [h1]
        apply dk_eq.mpr
        rw [dk_sub (by rw [nI_toInt (by omega), nI_toInt (by omega)]; omega) (by rw [nI_toInt (by omega), nI_toInt (by omega)]; omega), nI_toInt (by omega), nI_toInt (by omega), nI_toInt (by omega)]
        omega
      have ell : (nI (k - 1 - i)).toNatClampNeg = k - 1 - i := nI_clamp (by omega)
      have hr := hrows (k - 1 - i) (by omega)
      refine hC.go (fun q => if q = 9 then some 4 else none) 60 ?_
      refine ⟨fun h => ?_, fun _ => ?_⟩
      · exfalso
        have h : σ 18 9 ≤ nI i := h
        rw [h189] at h
        exact nI_ge (by omega) (by omega) h
      refine dk_cs (nI q, nI (k - 1 - i), a) rfl rfl ?_ ⟨hN, hEV, ⟨q, hq, rfl⟩, ⟨k - 1 - i, by omega, rfl, ?_⟩, by show -100000 ≤ a.toInt; omega, by show a.toInt ≤ 100000; omega⟩ (fun r2 σ2 hqq => ?_)
      · show ([.inr 18, .inl (nI q), .inl (σ 18 9 - 1 - nI i), .inl a] : List dk_V) = [.inr 18, .inl (nI q), .inl (nI (k - 1 - i)), .inl a]
        rw [el]
      · show rb (dk_up (dk_up σ 19 N) 18 (upd (σ 18) 2 (nI i)) (49 + (k - 1 - i)))
        rw [dk_up_ne (by omega), dk_up_ne (by omega)]
        exact hr.1
      obtain ⟨hσ2, hr2⟩ := hqq
      rw [hσ2]
      have hcell : dk_up (dk_up σ 19 N) 18 (upd (σ 18) 2 (nI i)) (49 + (k - 1 - i)) = σ (49 + (k - 1 - i)) := by rw [dk_up_ne (by omega), dk_up_ne (by omega)]
      have hr2 : (r2 = -1 ∧ ∀ e, e < nE σ → ¬ ge σ (nI q).toNatClampNeg (dk_up (dk_up σ 19 N) 18 (upd (σ 18) 2 (nI i)) (49 + (nI (k - 1 - i)).toNatClampNeg)) a.toInt e) ∨ ∃ e, e < nE σ ∧ r2 = nI (cn (eA σ) e) ∧ ge σ (nI q).toNatClampNeg (dk_up (dk_up σ 19 N) 18 (upd (σ 18) 2 (nI i)) (49 + (nI (k - 1 - i)).toNatClampNeg)) a.toInt e ∧ ∀ e2, e2 < e → ¬ ge σ (nI q).toNatClampNeg (dk_up (dk_up σ 19 N) 18 (upd (σ 18) 2 (nI i)) (49 + (nI (k - 1 - i)).toNatClampNeg)) a.toInt e2 := hr2
      rw [eq', ell, hcell] at hr2
      have hgeq : ∀ e, e < nE σ → (ge σ q (σ (49 + (k - 1 - i))) a.toInt e ↔ gnC σ p (k - 1 - i) q a.toInt e) := by
        intro e he
        have hMx := hr.2 _ (eT_lt hN he).1
        by_cases hA : eA σ e = true
        · have hb := hGb e he hA
          have := Mx.pos hGb hMx (show k - 1 - i ≤ 31 by omega) (show a.toInt + eG σ e ≤ 100000 by omega)
          constructor
          · rintro ⟨q1, q2, q3⟩
            exact ⟨he, q1, q2, this.mp q3⟩
          · rintro ⟨-, q1, q2, q3⟩
            exact ⟨q1, q2, this.mpr q3⟩
        · exact ⟨fun q => absurd q.1 hA, fun q => absurd q.2.1 hA⟩
      rcases hr2 with ⟨-, hnone⟩ | ⟨e, he, hr2, hge, hleast⟩
      · exfalso
        obtain ⟨s, hs1, hs2⟩ := hex
        rw [show k - i = (k - 1 - i) + 1 by omega] at hs1
        obtain ⟨e, q1, q2, q3, s', q4, q5⟩ := hs1
        exact hnone e q1 ((hgeq e q1).mpr ⟨q1, q2, q3, s', q4, by omega⟩)
      · have hgn := (hgeq e he).mp hge
        have hcn := cn_act (p := eA σ) he hge.1
        have hcE : cn (eA σ) (nE σ) ≤ 150 := by have := cn_le (eA σ) (nE σ); unfold nE at this ⊢; omega
        obtain ⟨v1, v2, v3, v4, -, -⟩ := hEV.at he hge.1
        subst hr2
        have ec : (nI (cn (eA σ) e)).toNatClampNeg = cn (eA σ) e := nI_clamp (by omega)
        have hic : vp_in (nI (cn (eA σ) e)) 150 := vp_in_nI (by omega) (by omega)
        have hm1 : ¬ nI (cn (eA σ) e) = -1 := fun q => by
          have := congrArg Int32.toInt q
          rw [nI_toInt (by omega)] at this
          have e9 : (-1 : Int32).toInt = -1 := rfl
          omega
        have hb := hGb e he hge.1
        have hadd : (a + σ 23 (cn (eA σ) e)).toInt = a.toInt + eG σ e := by rw [← v4]; exact dk_add (by rw [v4]; omega) (by rw [v4]; omega)
        refine ⟨by decide, fun _ => ⟨150, rfl, hic, 31, rfl, vp_in_nI (by omega) (by omega), 150, rfl, hic, by decide, 150, rfl, hic, by decide, by decide, ?_⟩, fun q => absurd hm1 q⟩
        obtain ⟨ε', hε'⟩ : ∃ ε', ε' = fun j => if j = i then e else ε j := ⟨_, rfl⟩
        have hεi : ε' i = e := by rw [hε']; simp
        have hεj : ∀ j, j < i → ε' j = ε j := fun j hj => by rw [hε']; simp [show ¬ j = i by omega]
        have key := ih (i + 1) (eT σ e) (a + σ 23 (cn (eA σ) e)) (upd N i (nI (eN σ e))) ε' (by omega) (eT_lt hN he).1 (by simp only [psn]; rw [hεi]) (by simp only [smn]; rw [hεi, hadd, smn_congr (i := i) hεj, hsum]) (by rw [hadd]; omega) (by rw [hadd]; omega) (by
          obtain ⟨s, hs1, hs2⟩ := hgn.2.2.2
          exact ⟨s, by rw [show k - (i + 1) = k - 1 - i by omega]; exact hs1, by rw [hadd]; omega⟩) (fun j hj => ?_)
        · rw [← nI_1 i] at key
          have eN1 : dk_up (dk_up (dk_up (dk_up σ 19 N) 18 (upd (σ 18) 2 (nI i))) 19 (upd N (nI i).toNatClampNeg (σ 20 (nI (cn (eA σ) e)).toNatClampNeg))) 18 (upd (upd (σ 18) 2 (nI i)) 2 (nI i + 1)) = dk_up (dk_up σ 19 (upd N i (nI (eN σ e)))) 18 (upd (σ 18) 2 (nI i + 1)) := by
            rw [dk_up_comm (show ¬ 18 = 19 by decide), dk_up_up, dk_up_up, u22, ei, ec, v1]
          rw [← eN1] at key
          have eT1 : nI (eT σ e) = σ 22 (nI (cn (eA σ) e)).toNatClampNeg := by rw [ec, v3]
          rw [eT1] at key
          rw [ec] at key ⊢
          exact key
        · by_cases c : j = i
          · subst c
            rw [hεi]
            refine ⟨by simp [upd], ?_⟩
            rw [psn_congr (i := j) hεj, smn_congr (i := j) hεj, ← hpos, ← hsum]
            exact ⟨hgn, fun e2 he2 hg2 => hleast e2 he2 ((hgeq e2 (by omega)).mpr hg2)⟩
          · have hj' : j < i := by omega
            rw [hεj j hj', psn_congr (i := j) (fun x hx => hεj x (by omega)), smn_congr (i := j) (fun x hx => hεj x (by omega))]
            refine ⟨?_, (hdone j hj').2⟩
            unfold upd
            rw [if_neg c]
            exact (hdone j hj').1
  refine hC.go (fun q => if q = 9 then some 4 else none) 60 ?_
  refine ⟨by decide, by decide, by decide, ?_⟩
  have key := loop k 0 p 0 (σ 19) (fun _ => 0) (by omega) hp rfl rfl (by decide) (by decide) (by
    obtain ⟨s, hs1, hs2⟩ := hPC
    exact ⟨s, hs2, by rw [i0]; omega⟩) (fun j hj => by omega)
  have e : dk_up (dk_up σ 19 (σ 19)) 18 (upd (σ 18) 2 (nI 0)) = σ := by
    have e1 : upd (σ 18) 2 (nI 0) = σ 18 := by
      funext j
      unfold upd
      split
      · next c => rw [c, h182]; rfl
      · rfl
    rw [e1, dk_up_id]
    exact dk_up_id (σ := σ) (k := 18)
  rw [e, ← h188] at key
  exact key
/-- the circle: so many edges, which; the first wherever it is begun -/
def CRC (ne : Nat) (A : Nat → Bool) (F T : Nat → Nat) (G : Nat → Int) (k : Nat) (ε : Nat → Nat) : Prop := kmin ne A F T G k ∧ isL (gk ne A F T G k) (ε 0) ∧ TR ne A F T G k (F (ε 0)) ε
abbrev CRCC (σ : dk_S) := CRC (nE σ) (eA σ) (eF σ) (eT σ) (eG σ)
def noc (σ : dk_S) : Prop := ∀ j, 1 ≤ j → j ≤ 31 → ∀ e, ¬ gkC σ j e
/-- nothing but the circle's cells has changed -/
def fr18 (σ σ' : dk_S) : Prop := ∀ q, ¬ (18 ≤ q ∧ q ≤ 23) → ¬ (49 ≤ q ∧ q < 81) → σ' q = σ q
abbrev sp_circleFind : dk_M := dk_sp 1 false (fun _ : Unit => [.inr 18]) (fun _ σ => NW σ ∧ σ 18 2 = 0)
  (fun _ σ _ σ' => fr18 σ σ' ∧ ((noc σ ∧ σ' 18 2 = 0) ∨ ∃ k ε, k ≤ 31 ∧ CRCC σ k ε ∧ σ' 18 2 = nI k ∧ ∀ i, i < k → σ' 19 i = nI (eN σ (ε i))))
set_option maxRecDepth 100000 in
set_option maxHeartbeats 4000000 in
theorem q_circleFind : dk_pure (kX1_find, fX1, [(46, sp_gatherEdges), (58, sp_findGoal), (65, sp_circleMeasure), (68, sp_trace)], [(52, sp_min)], nX1, 2, false) sp_circleFind := by
  refine dk_sp_pure (fun _ _ _ => rfl) (fun _ => rfl) ?_
  rintro OK _ σ ⟨hN, h182⟩ hC
  have hn := hN.n30
  have hm := hN.m120
  refine hC.go (fun q => if q = 11 then some 2 else none) 60 ?_
  refine dk_cs () rfl rfl rfl hN (fun _ σ1 hq => ?_)
  obtain ⟨k0, φ, n, f, t, g, hσ1, hE⟩ := hq
  rw [hσ1]
  refine ⟨by decide, ?_⟩
  obtain ⟨τ, hτ⟩ : ∃ τ, τ = dk_up (S5 σ (upd (σ 18) 3 (nI k0)) n f t g) 18 (upd (upd (σ 18) 3 (nI k0)) 8 (-1)) := ⟨_, rfl⟩
  have hfr0 : ∀ q, ¬ (18 ≤ q ∧ q ≤ 23) → τ q = σ q := by
    intro q hq
    rw [hτ, dk_up_ne (by omega)]
    unfold S5
    rw [if_neg (by omega), if_neg (by omega), if_neg (by omega), if_neg (by omega), if_neg (by omega)]
  have hNτ : NW τ := by rw [hτ]; exact hN
  have hEVτ : EV τ := by rw [hτ]; exact ⟨k0, φ, rfl, hE⟩
  have h8 : τ 18 8 = -1 := by rw [hτ]; rfl
  have h2 : τ 18 2 = 0 := by rw [hτ]; exact h182
  have eqs : nE τ = nE σ ∧ eA τ = eA σ ∧ eF τ = eF σ ∧ eT τ = eT σ ∧ eG τ = eG σ ∧ eN τ = eN σ := by rw [hτ]; exact ⟨rfl, rfl, rfl, rfl, rfl, rfl⟩
  obtain ⟨q1, q2, q3, q4, q5, q6⟩ := eqs
  have found : ∀ (x : Int32) (k e : Nat) (R : Nat → Nat → Int32), k ≤ 31 → kminC τ k → isL (gkC τ k) e → OK 11 [(0, .inr 18), (1, .inl x)] [] (SG τ (nI (eF τ e)) (nI k) R) := by
    intro x k e R hk hkm hL
    have he := hL.1.1
    have hF := (eF_lt hNτ he).1
    have hm1 : ¬ nI (eF τ e) = -1 := fun q => by
      have := congrArg Int32.toInt q
      rw [nI_toInt (by omega)] at this
      have e9 : (-1 : Int32).toInt = -1 := rfl
      omega
    have eF' : (nI (eF τ e)).toNatClampNeg = eF τ e := nI_clamp (by omega)
    have ek : (nI k).toNatClampNeg = k := nI_clamp (by omega)
    refine hC.go (fun _ => none) 60 ?_
    refine ⟨fun _ => ⟨fun q => absurd q hm1, fun _ => ?_⟩, fun q => absurd hm1 q⟩
    refine dk_cs (nI (eF τ e), nI k) rfl rfl rfl ⟨hNτ, SG_EV hEVτ, ⟨eF τ e, hF, rfl⟩, k, hk, rfl⟩ (fun r σ2 hq => ?_)
    obtain ⟨R1, s, hσ2, -, hs1, hno, hcase⟩ := hq
    rw [SG_rows] at hσ2
    rw [hσ2]
    have hno : ∀ j, 1 ≤ j → j < s → ¬ PCC τ j (nI (eF τ e)).toNatClampNeg := hno
    have hcase : (s ≤ (nI k).toNatClampNeg ∧ PCC τ s (nI (eF τ e)).toNatClampNeg ∧ ∀ j, j ≤ s → rb (R1 j) ∧ ∀ q, q < 31 → MxC τ j q (nI (eF τ e)).toNatClampNeg (R1 j q).toInt) ∨ s = (nI k).toNatClampNeg + 1 := hcase
    rw [eF'] at hno hcase
    rw [ek] at hcase
    have hPCk : PCC τ k (eF τ e) := (PC_gk hkm.1).mpr ⟨e, hL.1, rfl⟩
    rcases hcase with ⟨hsk, hPC, hrows⟩ | hs
    · have hsk : s = k := by
        rcases Nat.lt_or_ge s k with c | c
        · obtain ⟨e', h1, -⟩ := (PC_gk hs1).mp hPC
          exact absurd h1 (hkm.2.2 s hs1 c e')
        · omega
      subst hsk
      have htp : tp (SG τ (nI (eF τ e)) (nI s) R1) (eF τ e) s := by
        refine ⟨hF, rfl, hs1, hk, rfl, hPC, fun j hj => ?_⟩
        have : SG τ (nI (eF τ e)) (nI s) R1 (49 + j) = R1 j := rows_at (by omega)
        rw [this]
        exact hrows j (by omega)
      refine dk_cs () rfl rfl rfl ⟨hNτ, SG_EV hEVτ, h2, _, _, htp⟩ (fun _ σ3 hq => ?_)
      obtain ⟨N, ε, hσ3, hN3, hTR⟩ := hq _ _ htp
      have hTR : TRC τ s (eF τ e) ε := hTR
      have hN3 : ∀ i, i < s → N i = nI (eN τ (ε i)) := hN3
      have hε0 : ε 0 = e := by
        have h0 := hTR 0 (by omega)
        refine isL.unique h0 ⟨⟨hL.1.1, hL.1.2.1, rfl, ?_⟩, fun e' he' hg => hL.2 e' he' ⟨hg.1, hg.2.1, ?_⟩⟩
        · obtain ⟨x, hx1, hx2⟩ := hL.1.2.2
          exact ⟨x, hx1, by simp only [smn]; omega⟩
        · obtain ⟨x, hx1, hx2⟩ := hg.2.2.2
          have hf' : eF τ e' = eF τ e := hg.2.2.1
          rw [hf']
          exact ⟨x, hx1, by simp only [smn] at hx2; omega⟩
      refine ⟨fun q hq1 hq2 => ?_, Or.inr ⟨s, ε, hk, ?_, ?_, fun i hi => ?_⟩⟩
      · rw [hσ3, dk_up_ne (by omega), dk_up_ne (by omega)]
        show dk_rows _ _ q = _
        unfold dk_rows
        rw [if_neg hq2, dk_up_ne (by omega)]
        exact hfr0 q hq1
      · show CRC (nE σ) (eA σ) (eF σ) (eT σ) (eG σ) s ε
        rw [← q1, ← q2, ← q3, ← q4, ← q5]
        exact ⟨hkm, by rw [hε0]; exact hL, by rw [hε0]; exact hTR⟩
      · rw [hσ3, dk_up_self]
        simp [upd]
      · rw [hσ3, dk_up_ne (by omega), dk_up_self, ← q6]
        exact hN3 i hi
    · exfalso
      exact hno k hkm.1 (by omega) hPCk
  have loop : ∀ (d i : Nat) (F : Int32) (R : Nat → Nat → Int32), i + d = 5 → (∀ j, 1 ≤ j → j ≤ 2 ^ i → (i = 0 ∨ j ≤ 31) → 0 < i → ∀ e, ¬ gkC τ j e) → OK 11 [(0, .inr 18), (1, .inl (nI (2 ^ (i + 1))))] [] (SG τ (-1) F R) := by
    intro d
    induction d with
    | zero =>
      intro i F R hi hno
      have hi : i = 5 := by omega
      subst hi
      refine hC.go (fun q => if q = 11 then some 2 else none) 60 ?_
      refine ⟨fun q => absurd rfl q, fun _ => ⟨fun _ => ⟨fun _ => ?_, fun q => absurd rfl q⟩, fun q => absurd (show nI 62 ≤ nI 64 by decide) q⟩⟩
      refine ⟨fun q hq1 hq2 => ?_, Or.inl ⟨?_, h2⟩⟩
      · show dk_rows _ _ q = _
        unfold dk_rows
        rw [if_neg hq2, dk_up_ne (by omega)]
        exact hfr0 q hq1
      · intro j h1 h3 e
        show ¬ gk (nE σ) (eA σ) (eF σ) (eT σ) (eG σ) j e
        rw [← q1, ← q2, ← q3, ← q4, ← q5]
        exact hno j h1 (by omega) (Or.inr h3) (by omega) e
    | succ d ih =>
      intro i F R hi hno
      have hi4 : i ≤ 4 := by omega
      have hpow : 2 ^ (i + 1) ≤ 32 := by
        have := Nat.pow_le_pow_right (show 0 < 2 by omega) (show i + 1 ≤ 5 by omega)
        omega
      have hpow1 : 2 ≤ 2 ^ (i + 1) := by
        have := Nat.pow_le_pow_right (show 0 < 2 by omega) (show 1 ≤ i + 1 by omega)
        omega
      have hdbl : nI (2 ^ (i + 1)) * 2 = nI (2 ^ (i + 1 + 1)) := by
        have : ∀ i, i ≤ 4 → nI (2 ^ (i + 1)) * 2 = nI (2 ^ (i + 1 + 1)) := by decide +kernel
        exact this i hi4
      obtain ⟨L, hL⟩ : ∃ L, L = min (2 ^ (i + 1)) 31 := ⟨_, rfl⟩
      have eL : (nI L).toNatClampNeg = L := nI_clamp (by omega)
      refine hC.go (fun q => if q = 11 then some 2 else none) 60 ?_
      refine ⟨fun q => absurd rfl q, fun _ => ⟨fun h => ?_, fun _ => ?_⟩⟩
      · exfalso
        have h : nI 62 ≤ nI (2 ^ (i + 1)) := h
        rw [nI_leI (by omega) (by omega)] at h
        omega
      refine dk_cs (nI (2 ^ (i + 1)), nI 31) rfl rfl rfl trivial (fun r σ2 hq => ?_)
      obtain ⟨hσ2, hr⟩ := hq
      rw [hσ2]
      have hr : r = nI L := by
        rw [hr]
        show (if nI 31 < nI (2 ^ (i + 1)) then nI 31 else nI (2 ^ (i + 1))) = nI L
        rw [hL]
        by_cases c : 31 < 2 ^ (i + 1)
        · rw [if_pos (nI_lt c (by omega)), show min (2 ^ (i + 1)) 31 = 31 by omega]
        · rw [if_neg (nI_nlt (by omega) (by omega)), show min (2 ^ (i + 1)) 31 = 2 ^ (i + 1) by omega]
      refine dk_cs (nI L) rfl rfl ?_ ⟨hNτ, SG_EV hEVτ, L, by omega, by omega, rfl⟩ (fun _ σ3 hq => ?_)
      · show ([.inr 18, .inl r] : List dk_V) = [.inr 18, .inl (nI L)]
        rw [hr]
      obtain ⟨R1, G1, F1, hσ3, hcase⟩ := hq
      have hSS : SG (SG τ (-1) F R) G1 F1 R1 = SG τ G1 F1 R1 := by
        unfold SG
        funext q
        unfold dk_rows
        by_cases c : 49 ≤ q ∧ q < 81
        · rw [if_pos c, if_pos c]
        · rw [if_neg c, if_neg c]
          by_cases c2 : q = 18
          · subst c2
            rw [dk_up_self, dk_up_self]
            show upd (upd (upd (upd (τ 18) 8 (-1)) 9 F) 8 G1) 9 F1 = dk_up τ 18 (upd (upd (τ 18) 8 G1) 9 F1) 18
            rw [dk_up_self]
            funext j
            unfold upd
            by_cases e : j = 9
            · rw [if_pos e, if_pos e]
            · rw [if_neg e, if_neg e, if_neg e]
              by_cases e2 : j = 8
              · rw [if_pos e2, if_pos e2]
              · rw [if_neg e2, if_neg e2, if_neg e2]
          · rw [dk_up_ne c2, dk_up_ne c2, if_neg c, dk_up_ne c2]
      rw [hSS] at hσ3
      rw [hσ3]
      refine ⟨by decide, ?_⟩
      have hcase : (G1 = -1 ∧ ∀ j, 1 ≤ j → j ≤ (nI L).toNatClampNeg → ∀ e, ¬ gkC τ j e) ∨ ∃ k e, k ≤ (nI L).toNatClampNeg ∧ kminC τ k ∧ isL (gkC τ k) e ∧ G1 = nI (eF τ e) ∧ F1 = nI k := hcase
      rw [eL] at hcase
      rcases hcase with ⟨hG, hnone⟩ | ⟨k, e, hk, hkm, hLk, hG, hF1⟩
      · subst hG
        have key := ih (i + 1) F1 R1 (by omega) (fun j a b c _ e => hnone j a (by rcases c with c | c <;> omega) e)
        rw [← hdbl] at key
        exact key
      · rw [hG, hF1]
        exact found _ k e R1 (by omega) hkm hLk
  have key := loop 5 0 (τ 18 9) (fun j => τ (49 + j)) (by omega) (fun j _ _ _ h => by omega)
  have e : SG τ (-1) (τ 18 9) (fun j => τ (49 + j)) = τ := by
    have e1 : upd (upd (τ 18) 8 (-1)) 9 (τ 18 9) = τ 18 := by
      funext j
      unfold upd
      by_cases c : j = 9
      · rw [if_pos c, c]
      · rw [if_neg c]
        split
        · next c2 => rw [c2, h8]
        · rfl
    unfold SG
    rw [e1, dk_up_id]
    exact rows_id
  rw [e, hτ] at key
  exact key
abbrev sp_stands : dk_M := dk_sp 1 true (fun _ : Unit => [.inr 18]) (fun _ σ => ∃ k, k ≤ 31 ∧ σ 18 2 = nI k ∧ ∀ i, i < k → ∃ c, σ 19 i = nI c ∧ c < 230)
  (fun _ σ r σ' => σ' = σ ∧ ∀ k, k ≤ 31 → σ 18 2 = nI k → (r = 1 ∧ ∀ i, i < k → (σ 19 i).toNatClampNeg < 120 → σ 6 (σ 19 i).toNatClampNeg = 0) ∨ (r = 0 ∧ ¬ ∀ i, i < k → (σ 19 i).toNatClampNeg < 120 → σ 6 (σ 19 i).toNatClampNeg = 0))
set_option maxRecDepth 100000 in
set_option maxHeartbeats 1000000 in
theorem q_stands : dk_pure (kX1_stands, fX1, [], [], nX1, 2, true) sp_stands := by
  refine dk_sp_pure (fun _ _ _ => rfl) (fun _ => rfl) ?_
  rintro OK _ σ ⟨k, hk, hk1, hnum⟩ hC
  have hu : ∀ k', k' ≤ 31 → σ 18 2 = nI k' → k' = k := fun k' h1 h2 => by rw [hk1, nI_eq (by omega) (by omega)] at h2; exact h2.symm
  have loop : ∀ (d i : Nat), i + d = k → (∀ j, j < i → (σ 19 j).toNatClampNeg < 120 → σ 6 (σ 19 j).toNatClampNeg = 0) → OK 2 [(0, .inr 18), (1, .inl (nI i))] [] σ := by
    intro d
    induction d with
    | zero =>
      intro i hi hI
      refine hC.go (fun q => if q = 2 then some 2 else none) 60 ?_
      refine ⟨fun _ => ⟨Or.inr rfl, rfl, fun k' h1 h2 => Or.inl ⟨rfl, ?_⟩⟩, fun h => ?_⟩
      · rw [hu k' h1 h2, show k = i by omega]; exact hI
      · exfalso
        apply h
        show σ 18 2 ≤ nI i
        rw [hk1, show k = i by omega]
        exact Int32.le_refl _
    | succ d ih =>
      intro i hi hI
      have ei : (nI i).toNatClampNeg = i := nI_clamp (by omega)
      obtain ⟨c, hc1, hc2⟩ := hnum i (by omega)
      have ec : (nI c).toNatClampNeg = c := nI_clamp (by omega)
      have hii : vp_in (nI i) 31 := vp_in_nI (by omega) (by omega)
      have next : ((σ 19 i).toNatClampNeg < 120 → σ 6 (σ 19 i).toNatClampNeg = 0) → OK 2 [(0, .inr 18), (1, .inl (nI i + 1))] [] σ := by
        intro hx
        rw [nI_1]
        refine ih (i + 1) (by omega) (fun j hj => ?_)
        by_cases e : j = i
        · subst e; exact hx
        · exact hI j (by omega)
      refine hC.go (fun q => if q = 2 then some 2 else none) 60 ?_
      refine ⟨fun h => ?_, fun _ => ⟨31, rfl, hii, fun h => ⟨by decide, next ?_⟩, fun h => ⟨31, rfl, hii, 120, rfl, ?_, fun h3 => ⟨by decide, next ?_⟩, fun h3 => ⟨Or.inl rfl, rfl, fun k' h1 h2 => Or.inr ⟨rfl, ?_⟩⟩⟩⟩⟩
      · exfalso
        have h : σ 18 2 ≤ nI i := h
        rw [hk1] at h
        exact nI_ge (by omega) (by omega) h
      · have h : nI 120 ≤ σ 19 (nI i).toNatClampNeg := h
        rw [ei, hc1, nI_leI (by omega) (by omega)] at h
        rw [hc1, ec]
        intro; omega
      · have h : ¬ nI 120 ≤ σ 19 (nI i).toNatClampNeg := h
        rw [ei, hc1, nI_leI (by omega) (by omega)] at h
        rw [ei, hc1]
        exact vp_in_nI (by omega) (by omega)
      · have h3 : σ 6 (σ 19 (nI i).toNatClampNeg).toNatClampNeg = 0 := h3
        rw [ei] at h3
        exact fun _ => h3
      · have h3 : ¬ σ 6 (σ 19 (nI i).toNatClampNeg).toNatClampNeg = 0 := h3
        have h : ¬ nI 120 ≤ σ 19 (nI i).toNatClampNeg := h
        rw [ei, hc1, nI_leI (by omega) (by omega)] at h
        rw [ei] at h3
        rw [hu k' h1 h2]
        intro q
        exact h3 (q i (by omega) (by rw [hc1, ec]; omega))
  refine hC.go (fun q => if q = 2 then some 2 else none) 60 ?_
  refine ⟨by decide, ?_⟩
  exact loop k 0 (by omega) (fun j hj => by omega)
