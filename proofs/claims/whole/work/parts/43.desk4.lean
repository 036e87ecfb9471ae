/-! check, solve -/
theorem ES.unique {a : Nat → Bool} {u v : Nat → Nat} {g : Nat → Int} {m : Nat} {x y : Nat → Int} (h1 : ES a u v g m x) (h2 : ES a u v g m y) : ∀ j, j < 31 → x j = y j := fun j hj => Int.le_antisymm (h1.2.2.2 y h2.1 h2.2.1 j hj) (h2.2.2.2 x h1.1 h1.2.1 j hj)
theorem GS.unique {a : Nat → Bool} {u v : Nat → Nat} {g : Nat → Int} {m n : Nat} {l x y : Nat → Int} (h1 : GS a u v g m n l x) (h2 : GS a u v g m n l y) : ∀ j, Pl n j → x j = y j := fun j hj => Int.le_antisymm (h2.2.2 x h1.1 h1.2.1 j hj) (h1.2.2 y h2.1 h2.2.1 j hj)
theorem ES.FE {a : Nat → Bool} {u v : Nat → Nat} {g : Nat → Int} {m : Nat} {x : Nat → Int} (h : ES a u v g m x) : FE a u v g m := ⟨x, h.1, h.2.1, h.2.2.1⟩
def SAME (σ : dk_S) : Prop := ∃ x y, ES (aC σ) (uC σ) (vC σ) (gC σ) (mC σ) x ∧ GS (aC σ) (uC σ) (vC σ) (gC σ) (mC σ) (nC σ) (l0 (pl_len (dC σ) x (nC σ)) (dC σ)) y ∧ σ 9 1 = σ 1 0 ∧ pl_len (dC σ) x (nC σ) = (σ 9 2).toInt ∧ ∀ t, t < nC σ → x t = toI (σ 10) t ∧ y t = toI (σ 11) t
def STD (σ : dk_S) : Prop := ∀ i, i < (σ 18 2).toNatClampNeg → (σ 19 i).toNatClampNeg < 120 → σ 6 (σ 19 i).toNatClampNeg = 0
def HOLD (σ : dk_S) : Prop := ∃ x, ES (aC σ) (uC σ) (vC σ) (gC σ) (mC σ) x ∧ (∀ i, i < 32 → bt (σ 25 3) i = (decide (i < nC σ) && rn x (dC σ) (σ 25 2).toInt i)) ∧ ∀ t, t < 30 → Cov (σ 25 3) (σ 25 4) (σ 25 5) (σ 8) t
def yn (r : Int32) (P : Prop) : Prop := (r = 1 ∧ P) ∨ (r = 0 ∧ ¬ P)
theorem yn.unique {r r' : Int32} {P : Prop} (h : yn r P) (h' : yn r' P) : r = r' := by
  rcases h with ⟨a, b⟩ | ⟨a, b⟩ <;> rcases h' with ⟨c, d⟩ | ⟨c, d⟩
  · rw [a, c]
  · exact absurd b d
  · exact absurd d b
  · rw [a, c]
def CHK (σ : dk_S) (x r : Int32) : Prop := (x = 0 ∧ σ 0 7 = 0 ∧ yn r (SAME σ)) ∨ (x = 1 ∧ σ 0 7 = 1 ∧ yn r (STD σ)) ∨ (x = 2 ∧ ¬ σ 25 0 = 0 ∧ yn r (HOLD σ)) ∨ ((¬ (x = 0 ∧ σ 0 7 = 0) ∧ ¬ (x = 1 ∧ σ 0 7 = 1) ∧ ¬ (x = 2 ∧ ¬ σ 25 0 = 0)) ∧ r = -1)
abbrev sp_xcheck : dk_M := dk_sp 2 true (fun x : Int32 => [.inr 0, .inl x]) (fun _ σ => NW σ ∧ bd 5000000 (σ 14) ∧ (∃ k, k ≤ 31 ∧ σ 18 2 = nI k ∧ ∀ i, i < k → ∃ c, σ 19 i = nI c ∧ c < 230) ∧ (¬ σ 25 0 = 0 → ∀ t, t < 30 → σ 26 t = -1 ∨ ∃ w, w < 16 ∧ σ 26 t = nI w ∧ bt (σ 8 t) w = true))
  (fun x σ r σ' => (∃ c f h, σ' = dk_up (dk_up (dk_up σ 12 c) 13 f) 14 h ∧ bd 5000000 h) ∧ CHK σ x r)
set_option maxRecDepth 100000 in
set_option maxHeartbeats 4000000 in
theorem q_xcheck : dk_pure (kX6_check, fX6, [(105, sp_find), (161, sp_sameAs), (169, sp_stands), (135, sp_runningAt), (178, sp_holds)], [(165, sp_asNumber)], [], 2, false) sp_xcheck := by
  refine dk_sp_pure (fun x x' e => by cases e; rfl) (fun _ => rfl) ?_
  rintro OK w σ ⟨hN, hB14, hCir, hMat⟩ hC
  have hn := hN.n30
  have same : ∃ c f h, σ = dk_up (dk_up (dk_up σ 12 c) 13 f) 14 h ∧ bd 5000000 h := ⟨σ 12, σ 13, σ 14, by rw [dk_up_id, dk_up_id]; exact dk_up_id.symm, hB14⟩
  have at68 : ¬ (w = 0 ∧ σ 0 7 = 0) → ¬ (w = 1 ∧ σ 0 7 = 1) → OK 68 [(0, .inr 0), (1, .inl w)] [] σ := by
    intro n0 n1
    refine hC.go (fun _ => none) 60 ?_
    refine ⟨fun h => ⟨same, Or.inr (Or.inr (Or.inr ⟨⟨n0, n1, fun q => h q.1⟩, rfl⟩))⟩, fun h => ⟨fun h2 => ⟨same, Or.inr (Or.inr (Or.inr ⟨⟨n0, n1, fun q => q.2 h2⟩, rfl⟩))⟩, fun h2 => ?_⟩⟩
    have hw : w = 2 := Classical.not_not.mp h
    have h2 : ¬ σ 25 0 = 0 := h2
    refine dk_cs 12 rfl rfl rfl ⟨Or.inr rfl, hN, hB14⟩ (fun r σ1 hq => ?_)
    obtain ⟨c, f, l, hσ1, hc1, hf, hl, hr⟩ := hq
    have hσ1 : σ1 = dk_up (dk_up (dk_up σ 12 c) 13 f) 14 l := hσ1
    rw [hσ1]
    have fin : ∀ r2, yn r2 (HOLD σ) → (∃ c' f' h', dk_up (dk_up (dk_up σ 12 c) 13 f) 14 l = dk_up (dk_up (dk_up σ 12 c') 13 f') 14 h' ∧ bd 5000000 h') ∧ CHK σ w r2 := fun r2 q => ⟨⟨c, f, l, rfl, hl⟩, Or.inr (Or.inr (Or.inl ⟨hw, h2, q⟩))⟩
    refine ⟨fun h3 => dk_cs 0 rfl rfl rfl trivial (fun r2 σ2 hq2 => ?_), fun h3 => ?_⟩
    · have h3 : r = 0 := h3
      rw [hq2.1]
      refine fin r2 (Or.inr ⟨hq2.2, fun q => ?_⟩)
      obtain ⟨x, q1, -⟩ := q
      rcases hr with ⟨q2, -⟩ | ⟨-, q2⟩
      · rw [q2] at h3; exact absurd h3 i32_ne10
      · exact q2 q1.FE
    · have h3 : ¬ r = 0 := h3
      obtain ⟨hES, -, -⟩ : ES (aC σ) (uC σ) (vC σ) (gC σ) (mC σ) (toI f) ∧ (c 2).toInt = pl_len (dC σ) (toI f) (nC σ) ∧ GS (aC σ) (uC σ) (vC σ) (gC σ) (mC σ) (nC σ) (l0 (c 2).toInt (dC σ)) (toI l) := by
        rcases hr with ⟨-, q⟩ | ⟨q, -⟩
        · exact q
        · exact absurd q h3
      have e1 : (c 1).toNatClampNeg = nC σ := by rw [hc1]; rfl
      refine dk_cs (12, σ 25 2) rfl rfl rfl ⟨Or.inr rfl, hN, ⟨nC σ, Nat.le_refl _, by show c 1 = nI (nC σ); rw [hc1]; exact hN.n⟩, hf.le (by decide)⟩ (fun r2 σ2 hq2 => ?_)
      obtain ⟨hσ2, hr2⟩ := hq2
      rw [hσ2]
      have hr2 : ∀ i, i < 32 → bt r2 i = (decide (i < (c 1).toNatClampNeg) && rn (toI f) (dC σ) (σ 25 2).toInt i) := hr2
      rw [e1] at hr2
      refine dk_cs r2 rfl rfl rfl (hMat h2) (fun r3 σ3 hq3 => ?_)
      obtain ⟨hσ3, hr3⟩ := hq3
      rw [hσ3]
      have hr3 : (r3 = 1 ∧ σ 25 3 = r2 ∧ ∀ t, t < 30 → Cov (σ 25 3) (σ 25 4) (σ 25 5) (σ 8) t) ∨ (r3 = 0 ∧ ¬ (σ 25 3 = r2 ∧ ∀ t, t < 30 → Cov (σ 25 3) (σ 25 4) (σ 25 5) (σ 8) t)) := hr3
      refine ⟨fun h4 => dk_cs 0 rfl rfl rfl trivial (fun r4 σ4 hq4 => ?_), fun h4 => dk_cs 1 rfl rfl rfl trivial (fun r4 σ4 hq4 => ?_)⟩
      · have h4 : r3 = 0 := h4
        rw [hq4.1]
        refine fin r4 (Or.inr ⟨hq4.2, fun q => ?_⟩)
        obtain ⟨x, q1, q2, q3⟩ := q
        rcases hr3 with ⟨q4, -⟩ | ⟨-, q4⟩
        · rw [q4] at h4; exact absurd h4 i32_ne10
        · refine q4 ⟨b_ext (fun i hi => ?_), q3⟩
          rw [q2 i hi, hr2 i hi]
          by_cases c2 : i < nC σ
          · unfold rn
            rw [q1.unique hES i (by omega)]
          · simp [c2]
      · have h4 : ¬ r3 = 0 := h4
        rw [hq4.1]
        refine fin r4 (Or.inl ⟨hq4.2, ?_⟩)
        rcases hr3 with ⟨-, q4, q5⟩ | ⟨q4, -⟩
        · exact ⟨toI f, hES, fun i hi => by rw [q4]; exact hr2 i hi, q5⟩
        · exact absurd q4 h4
  have at44 : ¬ (w = 0 ∧ σ 0 7 = 0) → OK 44 [(0, .inr 0), (1, .inl w)] [] σ := by
    intro n0
    refine hC.go (fun q => if q = 68 then some 2 else none) 60 ?_
    refine ⟨fun h => at68 n0 (fun q => h q.1), fun h => ⟨fun h2 => at68 n0 (fun q => h2 q.2), fun h2 => ?_⟩⟩
    have hw : w = 1 := Classical.not_not.mp h
    have ho : σ 0 7 = 1 := Classical.not_not.mp h2
    obtain ⟨k, hk, hk1, hk2⟩ := hCir
    refine dk_cs () rfl rfl rfl ⟨k, hk, hk1, hk2⟩ (fun r σ1 hq => ?_)
    obtain ⟨hσ1, hr⟩ := hq
    rw [hσ1]
    have hr := hr k hk hk1
    refine dk_cs r rfl rfl rfl trivial (fun r2 σ2 hq2 => ?_)
    rw [hq2.1]
    have hr2 : r2 = if r = 0 then 0 else 1 := hq2.2
    have es : STD σ ↔ ∀ i, i < k → (σ 19 i).toNatClampNeg < 120 → σ 6 (σ 19 i).toNatClampNeg = 0 := by
      unfold STD
      rw [hk1, nI_clamp (by omega)]
    refine ⟨same, Or.inr (Or.inl ⟨hw, ho, ?_⟩)⟩
    unfold yn
    rw [es]
    rcases hr with ⟨q1, q2⟩ | ⟨q1, q2⟩
    · left; rw [hr2, q1]; exact ⟨rfl, q2⟩
    · right; rw [hr2, q1]; exact ⟨rfl, q2⟩
  refine hC.go (fun q => if q = 44 then some 2 else none) 60 ?_
  refine ⟨fun h => at44 (fun q => h q.1), fun h => ⟨fun h2 => at44 (fun q => h2 q.2), fun h2 => ?_⟩⟩
  have hw : w = 0 := Classical.not_not.mp h
  have ho : σ 0 7 = 0 := Classical.not_not.mp h2
  refine dk_cs 12 rfl rfl rfl ⟨Or.inr rfl, hN, hB14⟩ (fun r σ1 hq => ?_)
  obtain ⟨c, f, l, hσ1, hc1, hf, hl, hr⟩ := hq
  have hσ1 : σ1 = dk_up (dk_up (dk_up σ 12 c) 13 f) 14 l := hσ1
  rw [hσ1]
  have fin : ∀ r2, yn r2 (SAME σ) → (∃ c' f' h', dk_up (dk_up (dk_up σ 12 c) 13 f) 14 l = dk_up (dk_up (dk_up σ 12 c') 13 f') 14 h' ∧ bd 5000000 h') ∧ CHK σ w r2 := fun r2 q => ⟨⟨c, f, l, rfl, hl⟩, Or.inl ⟨hw, ho, q⟩⟩
  refine ⟨fun h3 => dk_cs 0 rfl rfl rfl trivial (fun r2 σ2 hq2 => ?_), fun h3 => ?_⟩
  · have h3 : r = 0 := h3
    rw [hq2.1]
    refine fin r2 (Or.inr ⟨hq2.2, fun q => ?_⟩)
    obtain ⟨x, y, q1, -⟩ := q
    rcases hr with ⟨q2, -⟩ | ⟨-, q2⟩
    · rw [q2] at h3; exact absurd h3 i32_ne10
    · exact q2 q1.FE
  · have h3 : ¬ r = 0 := h3
    obtain ⟨hES, hlen, hGS⟩ : ES (aC σ) (uC σ) (vC σ) (gC σ) (mC σ) (toI f) ∧ (c 2).toInt = pl_len (dC σ) (toI f) (nC σ) ∧ GS (aC σ) (uC σ) (vC σ) (gC σ) (mC σ) (nC σ) (l0 (c 2).toInt (dC σ)) (toI l) := by
      rcases hr with ⟨-, q⟩ | ⟨q, -⟩
      · exact q
      · exact absurd q h3
    have e1 : (c 1).toNatClampNeg = nC σ := by rw [hc1]; rfl
    refine dk_cs () rfl rfl rfl ⟨nC σ, hn, by show c 1 = nI (nC σ); rw [hc1]; exact hN.n⟩ (fun r2 σ2 hq2 => ?_)
    obtain ⟨hσ2, hr2⟩ := hq2
    rw [hσ2]
    have hr2 : (r2 = 1 ∧ c 1 = σ 9 1 ∧ c 2 = σ 9 2 ∧ ∀ t, t < (c 1).toNatClampNeg → f t = σ 10 t ∧ l t = σ 11 t) ∨ (r2 = 0 ∧ ¬ (c 1 = σ 9 1 ∧ c 2 = σ 9 2 ∧ ∀ t, t < (c 1).toNatClampNeg → f t = σ 10 t ∧ l t = σ 11 t)) := hr2
    rw [e1] at hr2
    refine ⟨fun h4 => dk_cs 0 rfl rfl rfl trivial (fun r4 σ4 hq4 => ?_), fun h4 => dk_cs 1 rfl rfl rfl trivial (fun r4 σ4 hq4 => ?_)⟩
    · have h4 : r2 = 0 := h4
      rw [hq4.1]
      refine fin r4 (Or.inr ⟨hq4.2, fun q => ?_⟩)
      obtain ⟨x, y, q1, q2, q3, q4, q5⟩ := q
      rcases hr2 with ⟨q6, -⟩ | ⟨-, q6⟩
      · rw [q6] at h4; exact absurd h4 i32_ne10
      · have ex := q1.unique hES
        have el : pl_len (dC σ) x (nC σ) = (c 2).toInt := by
          rw [hlen]
          exact pl_len_congr (fun t ht => ⟨rfl, ex t (by omega)⟩)
        rw [el] at q2 q4
        have ey := q2.unique hGS
        refine q6 ⟨by rw [hc1, q3], dk_eq.mpr q4, fun t ht => ⟨dk_eq.mpr ?_, dk_eq.mpr ?_⟩⟩
        · have := (q5 t ht).1
          rw [ex t (by omega)] at this
          exact this
        · have := (q5 t ht).2
          rw [ey t (Or.inl ht)] at this
          exact this
    · have h4 : ¬ r2 = 0 := h4
      rw [hq4.1]
      refine fin r4 (Or.inl ⟨hq4.2, ?_⟩)
      rcases hr2 with ⟨-, q4, q5, q6⟩ | ⟨q4, -⟩
      · refine ⟨toI f, toI l, hES, by rw [← hlen]; exact hGS, by rw [← q4, hc1], by rw [← hlen, q5], fun t ht => ⟨?_, ?_⟩⟩
        · show (f t).toInt = (σ 10 t).toInt
          rw [(q6 t ht).1]
        · show (l t).toInt = (σ 11 t).toInt
          rw [(q6 t ht).2]
      · exact absurd q4 h4
/-- what solve keeps -/
def frS (σ σ' : dk_S) : Prop := ∀ q, ¬ q = 0 → ¬ q = 25 → ¬ (9 ≤ q ∧ q ≤ 11) → ¬ (15 ≤ q ∧ q ≤ 23) → ¬ (49 ≤ q ∧ q < 81) → σ' q = σ q
def SOL0 (σ σ' : dk_S) : Prop := σ' 9 1 = σ 1 0 ∧ ES (aC σ) (uC σ) (vC σ) (gC σ) (mC σ) (toI (σ' 10)) ∧ (σ' 9 2).toInt = pl_len (dC σ) (toI (σ' 10)) (nC σ) ∧ GS (aC σ) (uC σ) (vC σ) (gC σ) (mC σ) (nC σ) (l0 (σ' 9 2).toInt (dC σ)) (toI (σ' 11)) ∧ σ' 18 2 = 0 ∧ ∃ k f, k ≤ 30 ∧ σ' 15 4 = nI k ∧ (∀ i, i < k → ∃ t, t < nC σ ∧ σ' 16 i = nI t) ∧ DW (nC σ) (tC σ') (enC σ') 31 f ∧ CHN (nC σ) (toI (σ' 10)) (tC σ') f 31 k (fun i => (σ' 16 i).toNatClampNeg)
def SOL1 (σ σ' : dk_S) : Prop := ¬ FE (aC σ) (uC σ) (vC σ) (gC σ) (mC σ) ∧ σ' 15 4 = 0 ∧ ((noc σ ∧ σ' 18 2 = 0) ∨ ∃ k ε, k ≤ 31 ∧ CRCC σ k ε ∧ σ' 18 2 = nI k ∧ ∀ i, i < k → σ' 19 i = nI (eN σ (ε i)))
abbrev sp_xsolve : dk_M := dk_sp 1 true (fun _ : Unit => [.inr 0]) (fun _ σ => NW σ ∧ bd 5000000 (σ 11) ∧ bd3 1000 (σ 17))
  (fun _ σ r σ' => frS σ σ' ∧ σ' 0 8 = 1 ∧ σ' 25 = upd (σ 25) 1 0 ∧ bd 4000000 (σ' 10) ∧ bd 5000000 (σ' 11) ∧ bd3 1000 (σ' 17) ∧ σ' 0 7 = r ∧ ((r = 0 ∧ SOL0 σ σ') ∨ (r = 1 ∧ SOL1 σ σ')))
set_option maxRecDepth 100000 in
set_option maxHeartbeats 4000000 in
theorem q_xsolve : dk_pure (kX6_solve, fX6, [(105, sp_find), (109, sp_chainFind), (111, sp_circleFind)], [], [], 1, false) sp_xsolve := by
  refine dk_sp_pure (fun _ _ _ => rfl) (fun _ => rfl) ?_
  rintro OK _ σ ⟨hN, hB11, hB17⟩ hC
  have hn := hN.n30
  refine hC.go (fun _ => none) 60 ?_
  refine ⟨Or.inl rfl, Or.inr rfl, ?_⟩
  obtain ⟨τ, hτ⟩ : ∃ τ, τ = dk_up (dk_up (dk_up (dk_up σ 25 (upd (σ 25) 1 0)) 0 (upd (σ 0) 8 1)) 15 (upd (σ 15) 4 0)) 18 (upd (σ 18) 2 0) := ⟨_, rfl⟩
  have hNτ : NW τ := by rw [hτ]; exact hN
  have hBτ : bd 5000000 (τ 11) := by rw [hτ]; exact hB11
  have hB17τ : bd3 1000 (τ 17) := by rw [hτ]; exact hB17
  have hfr : ∀ q, ¬ q = 0 → ¬ q = 25 → ¬ q = 15 → ¬ q = 18 → τ q = σ q := fun q h1 h2 h3 h4 => by
    rw [hτ, dk_up_ne h4, dk_up_ne h3, dk_up_ne h1, dk_up_ne h2]
  have t0 : τ 0 = upd (σ 0) 8 1 := by rw [hτ]; rfl
  have t25 : τ 25 = upd (σ 25) 1 0 := by rw [hτ]; rfl
  have t15 : τ 15 = upd (σ 15) 4 0 := by rw [hτ]; rfl
  have t18 : τ 18 = upd (σ 18) 2 0 := by rw [hτ]; rfl
  have ea : aC τ = aC σ := by rw [hτ]; rfl
  have eu : uC τ = uC σ := by rw [hτ]; rfl
  have ev : vC τ = vC σ := by rw [hτ]; rfl
  have eg : gC τ = gC σ := by rw [hτ]; rfl
  have ed : dC τ = dC σ := by rw [hτ]; rfl
  have em : mC τ = mC σ := by rw [hτ]; rfl
  have en : nC τ = nC σ := by rw [hτ]; rfl
  have t10 : τ 1 0 = σ 1 0 := by rw [hτ]; rfl
  show dk_call sp_find [.inr 9] (dk_up (dk_up (dk_up (dk_up σ 25 (upd (σ 25) 1 0)) 0 (upd (σ 0) 8 1)) 15 (upd (σ 15) 4 0)) 18 (upd (σ 18) 2 0)) _
  rw [← hτ]
  refine dk_cs 9 rfl rfl rfl ⟨Or.inl rfl, hNτ, hBτ⟩ (fun r σ1 hq => ?_)
  obtain ⟨c, f, l, hσ1, hc1, hf, hl, hr⟩ := hq
  have hσ1 : σ1 = dk_up (dk_up (dk_up τ 9 c) 10 f) 11 l := hσ1
  rw [ea, eu, ev, eg, ed, em, en] at hr
  rw [hσ1]
  refine ⟨fun h => ?_, fun h => ?_⟩
  · have h : r = 0 := h
    have hFE : ¬ FE (aC σ) (uC σ) (vC σ) (gC σ) (mC σ) := by
      rcases hr with ⟨q, -⟩ | ⟨-, q⟩
      · rw [q] at h; exact absurd h i32_ne10
      · exact q
    obtain ⟨ρ, hρ⟩ : ∃ ρ, ρ = dk_up (dk_up (dk_up (dk_up τ 9 c) 10 f) 11 l) 0 (upd (τ 0) 7 1) := ⟨_, rfl⟩
    show dk_call sp_circleFind [.inr 18] (dk_up (dk_up (dk_up (dk_up τ 9 c) 10 f) 11 l) 0 (upd (τ 0) 7 1)) _
    rw [← hρ]
    have hNρ : NW ρ := by rw [hρ]; exact hNτ
    have r18 : ρ 18 = upd (σ 18) 2 0 := by rw [hρ]; exact t18
    refine dk_cs () rfl rfl rfl ⟨hNρ, by rw [r18]; rfl⟩ (fun _ σ2 hq2 => ?_)
    obtain ⟨h18, hcr⟩ := hq2
    have e0 : σ2 0 = upd (τ 0) 7 1 := by rw [h18 0 (by omega) (by omega), hρ]; rfl
    have ec : (CRCC ρ) = CRCC σ := by
      have : CRCC ρ = CRCC τ := by rw [hρ]; rfl
      rw [this, hτ]; rfl
    have eN' : eN ρ = eN σ := by
      have : eN ρ = eN τ := by rw [hρ]; rfl
      rw [this, hτ]; rfl
    have enoc : noc ρ = noc σ := by
      have : noc ρ = noc τ := by rw [hρ]; rfl
      rw [this, hτ]; rfl
    rw [ec, eN', enoc] at hcr
    have e7 : σ2 0 7 = 1 := by rw [e0]; rfl
    refine ⟨fun q h1 h2 h3 h4 h5 => ?_, by rw [e0, t0]; rfl, ?_, ?_, ?_, ?_, rfl, Or.inr ⟨e7, hFE, ?_, hcr⟩⟩
    · rw [h18 q (by omega) h5, hρ, dk_up_ne h1, dk_up_ne (by omega), dk_up_ne (by omega), dk_up_ne (by omega)]
      exact hfr q h1 h2 (by omega) (by omega)
    · rw [h18 25 (by omega) (by omega), hρ]; exact t25
    · have : σ2 10 = f := by rw [h18 10 (by omega) (by omega), hρ]; rfl
      rw [this]; exact hf
    · have : σ2 11 = l := by rw [h18 11 (by omega) (by omega), hρ]; rfl
      rw [this]; exact hl
    · have : σ2 17 = σ 17 := by rw [h18 17 (by omega) (by omega), hρ]; exact hfr 17 (by omega) (by omega) (by omega) (by omega)
      rw [this]; exact hB17
    · have : σ2 15 = upd (σ 15) 4 0 := by rw [h18 15 (by omega) (by omega), hρ]; exact t15
      rw [this]; rfl
  · have h : ¬ r = 0 := h
    obtain ⟨hES, hlen, hGS⟩ : ES (aC σ) (uC σ) (vC σ) (gC σ) (mC σ) (toI f) ∧ (c 2).toInt = pl_len (dC σ) (toI f) (nC σ) ∧ GS (aC σ) (uC σ) (vC σ) (gC σ) (mC σ) (nC σ) (l0 (c 2).toInt (dC σ)) (toI l) := by
      rcases hr with ⟨-, q⟩ | ⟨q, -⟩
      · exact q
      · exact absurd q h
    obtain ⟨ρ, hρ⟩ : ∃ ρ, ρ = dk_up (dk_up (dk_up (dk_up τ 9 c) 10 f) 11 l) 0 (upd (τ 0) 7 0) := ⟨_, rfl⟩
    show dk_call sp_chainFind [.inr 15] (dk_up (dk_up (dk_up (dk_up τ 9 c) 10 f) 11 l) 0 (upd (τ 0) 7 0)) _
    rw [← hρ]
    have hNρ : NW ρ := by rw [hρ]; exact hNτ
    have r15 : ρ 15 = upd (σ 15) 4 0 := by rw [hρ]; exact t15
    have r10 : ρ 10 = f := by rw [hρ]; rfl
    have r17 : ρ 17 = τ 17 := by rw [hρ]; rfl
    have rn' : nC ρ = nC σ := by rw [hρ]; exact en
    refine dk_cs () rfl rfl rfl ⟨hNρ, by rw [r10]; exact hf.le (by decide), by rw [r17]; exact hB17τ, by rw [r15]; rfl⟩ (fun _ σ2 hq2 => ?_)
    obtain ⟨W, T, k, hσ2, hW, hk, hT, hDW, hCHN⟩ := hq2
    have s0 : σ2 0 = upd (τ 0) 7 0 := by rw [hσ2, hρ]; rfl
    have s10 : σ2 10 = f := by rw [hσ2, hρ]; rfl
    have s9 : σ2 9 = c := by rw [hσ2, hρ]; rfl
    have s11 : σ2 11 = l := by rw [hσ2, hρ]; rfl
    have s16 : σ2 16 = T := by rw [hσ2]; rfl
    have s17 : σ2 17 = W := by rw [hσ2]; rfl
    have s15 : σ2 15 = upd (ρ 15) 4 (nI k) := by rw [hσ2]; rfl
    have etC : tC σ2 = tC ρ := by rw [hσ2]; rfl
    have een : enC σ2 = enC ρ := by rw [hσ2]; rfl
    rw [rn', r10] at hCHN
    rw [rn'] at hDW hT
    have e7 : σ2 0 7 = 0 := by rw [s0]; rfl
    refine ⟨fun q h1 h2 h3 h4 h5 => ?_, by rw [s0, t0]; rfl, ?_, by rw [s10]; exact hf, by rw [s11]; exact hl, by rw [s17]; exact hW, rfl, Or.inl ⟨e7, by rw [s9, hc1]; exact t10, by rw [s10]; exact hES, by rw [s9, s10]; exact hlen, by rw [s9, s11]; exact hGS, ?_, k, toI W, hk, by rw [s15]; rfl, by rw [s16]; exact hT, by rw [etC, een]; exact hDW, by rw [etC, s10, s16]; exact hCHN⟩⟩
    · rw [hσ2, dk_up_ne (by omega), dk_up_ne (by omega), dk_up_ne (by omega), hρ, dk_up_ne h1, dk_up_ne (by omega), dk_up_ne (by omega), dk_up_ne (by omega)]
      exact hfr q h1 h2 (by omega) (by omega)
    · rw [hσ2, hρ]; exact t25
    · have : σ2 18 = upd (σ 18) 2 0 := by rw [hσ2, hρ]; exact t18
      rw [this]; rfl
