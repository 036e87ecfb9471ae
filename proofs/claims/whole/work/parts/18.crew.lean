/-! holdsBit, Crew, and the helpers of the desk -/
theorem i32_ne10 : ¬ (1 : Int32) = 0 := by decide
abbrev sp_holdsBit : dk_M := dk_sp 2 true (fun x : Int32 × Int32 => [.inl x.1, .inl x.2]) (fun x _ => ∃ n, n < 32 ∧ x.2 = nI n) (fun x σ r σ' => σ' = σ ∧ ∀ n, n < 32 → x.2 = nI n → r = if bt x.1 n = true then 1 else 0)
set_option maxRecDepth 100000 in
theorem q_holdsBit : dk_pure (kX6_holdsBit, fX6, [], [], [], 2, true) sp_holdsBit := by
  refine dk_sp_pure (fun x x' e => by obtain ⟨a, b⟩ := x; obtain ⟨c, d⟩ := x'; cases e; rfl) (fun _ => rfl) ?_
  rintro OK ⟨x, y⟩ σ ⟨n, hn, hy⟩ hC
  have hy : y = nI n := hy
  subst hy
  refine hC.go (fun _ => none) 30 ?_
  refine ⟨fun h => ⟨Or.inl rfl, rfl, ?_⟩, fun h => ⟨Or.inr rfl, rfl, ?_⟩⟩
  · have h : (x >>> (nI n &&& 31)) &&& 1 = 0 := h
    intro k hk e
    have e : nI n = nI k := e
    rw [nI_eq (by omega) (by omega)] at e
    subst e
    rw [b_get hn] at h
    show (0 : Int32) = if bt x n = true then 1 else 0
    split at h
    · exact absurd h i32_ne10
    · next q => rw [if_neg q]
  · have h : ¬ (x >>> (nI n &&& 31)) &&& 1 = 0 := h
    intro k hk e
    have e : nI n = nI k := e
    rw [nI_eq (by omega) (by omega)] at e
    subst e
    rw [b_get hn] at h
    show (1 : Int32) = if bt x n = true then 1 else 0
    split at h
    · next q => rw [if_pos q]
    · exact absurd rfl h
def wC (σ : dk_S) : Nat := (σ 7 0).toNatClampNeg
def CW (σ : dk_S) : Prop := ∃ w, w ≤ 16 ∧ σ 7 0 = nI w
theorem CW.w {σ : dk_S} (h : CW σ) : σ 7 0 = nI (wC σ) ∧ wC σ ≤ 16 := by
  obtain ⟨w, h1, h2⟩ := h
  have : wC σ = w := by unfold wC; rw [h2, nI_clamp (by omega)]
  rw [this]; exact ⟨h2, h1⟩
abbrev sp_addWorker : dk_M := dk_sp 1 true (fun _ : Unit => [.inr 7]) (fun _ σ => CW σ) (fun _ σ r σ' => (wC σ < 16 ∧ r = nI (wC σ) ∧ σ' = dk_up σ 7 (upd (σ 7) 0 (nI (wC σ + 1)))) ∨ (wC σ = 16 ∧ r = -1 ∧ σ' = σ))
set_option maxRecDepth 100000 in
theorem q_addWorker : dk_pure (kX2_addWorker, fX2, [], [], [], 1, false) sp_addWorker := by
  refine dk_sp_pure (fun _ _ _ => rfl) (fun _ => rfl) ?_
  rintro OK _ σ hW hC
  obtain ⟨e0, hw⟩ := hW.w
  have ti : (nI (wC σ)).toInt = wC σ := nI_toInt (by omega)
  refine hC.go (fun _ => none) 30 ?_
  refine ⟨fun h => Or.inl ⟨?_, ?_, ?_⟩, fun h => Or.inr ⟨?_, rfl, rfl⟩⟩
  · have h : σ 7 0 < 16 := h
    rw [e0, dk_lt, ti, show (16 : Int32).toInt = 16 from rfl] at h
    omega
  · show upd (σ 7) 0 (σ 7 0 + 1) 0 - 1 = _
    have : upd (σ 7) 0 (σ 7 0 + 1) 0 = σ 7 0 + 1 := by simp [upd]
    rw [this, e0, nI_1, nI_pred]
  · show dk_up σ 7 (upd (σ 7) 0 (σ 7 0 + 1)) = _
    rw [e0, nI_1]
  · have h : ¬ σ 7 0 < 16 := h
    rw [e0, dk_lt, ti, show (16 : Int32).toInt = 16 from rfl] at h
    omega
/-- the bits that a skill adds -/
def oks (σ : dk_S) (k : Nat) (w : Int32) (j : Nat) : Prop := j < wC σ ∧ w = nI j ∧ ¬ bt (σ 8 k) j = true
abbrev sp_addSkill : dk_M := dk_sp 3 true (fun x : Int32 × Int32 => [.inr 7, .inl x.1, .inl x.2]) (fun x σ => CW σ ∧ ∃ k, k < 30 ∧ x.1 = nI k) (fun x σ r σ' => (∃ j, oks σ x.1.toNatClampNeg x.2 j ∧ r = 1 ∧ σ' = dk_up (dk_up σ 8 (upd (σ 8) x.1.toNatClampNeg (σ 8 x.1.toNatClampNeg ||| (1 : Int32) <<< (nI j &&& 31)))) 7 (upd (σ 7) 1 (σ 7 1 + 1))) ∨ ((¬ ∃ j, oks σ x.1.toNatClampNeg x.2 j) ∧ r = 0 ∧ σ' = σ))
set_option maxRecDepth 100000 in
set_option maxHeartbeats 1000000 in
theorem q_addSkill : dk_pure (kX2_addSkill, fX2, [(19, sp_hasWorker)], [(23, sp_holdsBit)], [], 3, true) sp_addSkill := by
  refine dk_sp_pure (fun x x' e => by obtain ⟨a, b⟩ := x; obtain ⟨c, d⟩ := x'; cases e; rfl) (fun _ => rfl) ?_
  rintro OK ⟨t, w⟩ σ ⟨hW, k, hk, ht⟩ hC
  have ht : t = nI k := ht
  subst ht
  obtain ⟨e0, hw⟩ := hW.w
  have ek : (nI k).toNatClampNeg = k := nI_clamp (by omega)
  have hi : vp_in (nI k) 30 := vp_in_nI (by omega) (by omega)
  refine hC.go (fun _ => none) 60 ?_
  refine dk_cs w rfl rfl rfl trivial (fun r1 σ1 hq => ?_)
  obtain ⟨hσ1, hr1⟩ := hq
  rw [hσ1]
  refine ⟨fun h => ⟨Or.inl rfl, Or.inr ⟨?_, rfl, rfl⟩⟩, fun h => ?_⟩
  · have h : r1 = 0 := h
    rintro ⟨j, h1, h2, -⟩
    have h2 : w = nI j := h2
    rw [hr1, ← dk_bp (show 0 ≤ w ∧ w < σ 7 0 from by rw [h2, e0]; exact ⟨nI_pos' (by omega), nI_lt h1 (by omega)⟩)] at h
    exact absurd h i32_ne10
  · have h : ¬ r1 = 0 := h
    have h0 : 0 ≤ w ∧ w < σ 7 0 := by
      apply Classical.byContradiction
      intro q
      rw [hr1, ← dk_bn q] at h
      exact h rfl
    obtain ⟨j, hj, hwj⟩ := nI_of (i32_nlt.mpr h0.1)
    subst hwj
    have hjw : j < wC σ := by
      have := h0.2
      rw [e0, nI_ltI hj (by omega)] at this
      exact this
    refine ⟨30, rfl, hi, ?_⟩
    refine dk_cs (σ 8 (nI k).toNatClampNeg, nI j) rfl rfl rfl ⟨j, by omega, rfl⟩ (fun r2 σ2 hq => ?_)
    obtain ⟨hσ2, hr2⟩ := hq
    rw [hσ2]
    have hr2 := hr2 j (by omega) rfl
    have hr2 : r2 = if bt (σ 8 (nI k).toNatClampNeg) j = true then 1 else 0 := hr2
    rw [ek] at hr2
    refine ⟨fun h3 => ⟨30, rfl, hi, 30, rfl, hi, Or.inr rfl, Or.inl ⟨j, ⟨hjw, rfl, ?_⟩, rfl, ?_⟩⟩, fun h3 => ⟨Or.inl rfl, Or.inr ⟨?_, rfl, rfl⟩⟩⟩
    · have h3 : r2 = 0 := h3
      show ¬ bt (σ 8 (nI k).toNatClampNeg) j = true
      rw [ek]
      intro q
      rw [hr2, if_pos q] at h3
      exact absurd h3 i32_ne10
    · rfl
    · have h3 : ¬ r2 = 0 := h3
      rintro ⟨j2, h1, h2, h4⟩
      have h2 : nI j = nI j2 := h2
      rw [nI_eq hj (by omega)] at h2
      subst h2
      have h4 : ¬ bt (σ 8 (nI k).toNatClampNeg) j = true := h4
      rw [ek] at h4
      rw [hr2, if_neg h4] at h3
      exact h3 rfl
abbrev sp_spoilPlan : dk_M := dk_sp 1 false (fun _ : Unit => [.inr 0]) (fun _ _ => True) (fun _ σ _ σ' => σ' = dk_up (dk_up σ 0 (upd (σ 0) 8 0)) 25 (upd (σ 25) 1 0))
set_option maxRecDepth 100000 in
theorem q_spoilPlan : dk_pure (kX6_spoilPlan, fX6, [], [], [], 1, false) sp_spoilPlan := by
  refine dk_sp_pure (fun _ _ _ => rfl) (fun _ => rfl) ?_
  rintro OK _ σ _ hC
  refine hC.go (fun _ => none) 30 ?_
  exact ⟨Or.inl rfl, Or.inl rfl, rfl⟩
abbrev sp_timesFresh : dk_M := dk_sp 1 true (fun _ : Unit => [.inr 0]) (fun _ _ => True) (fun _ σ r σ' => σ' = σ ∧ r = dk_b (¬ σ 0 8 = 0 ∧ σ 0 7 = 0))
set_option maxRecDepth 100000 in
theorem q_timesFresh : dk_pure (kX6_timesFresh, fX6, [], [], [], 1, true) sp_timesFresh := by
  refine dk_sp_pure (fun _ _ _ => rfl) (fun _ => rfl) ?_
  rintro OK _ σ _ hC
  refine hC.go (fun _ => none) 30 ?_
  exact ⟨fun h => ⟨Or.inl rfl, rfl, dk_bn (fun q => q.1 h)⟩, fun h => ⟨fun h2 => ⟨Or.inl rfl, rfl, dk_bn (fun q => h2 q.2)⟩, fun h2 => ⟨Or.inr rfl, rfl, dk_bp ⟨h, Classical.not_not.mp h2⟩⟩⟩⟩
abbrev sp_asNumber : dk_M := dk_sp 1 true (fun b : Int32 => [.inl b]) (fun _ _ => True) (fun b σ r σ' => σ' = σ ∧ r = if b = 0 then 0 else 1)
set_option maxRecDepth 100000 in
theorem q_asNumber : dk_pure (kX6_asNumber, fX6, [], [], [], 1, false) sp_asNumber := by
  refine dk_sp_pure (fun x x' e => by cases e; rfl) (fun _ => rfl) ?_
  rintro OK b σ _ hC
  refine hC.go (fun _ => none) 30 ?_
  exact ⟨fun h => ⟨rfl, (if_pos h).symm⟩, fun h => ⟨rfl, (if_neg h).symm⟩⟩
/-- i-th of a kept row: cells o (object), s (its slot of the size), a (the row), of n places -/
def atv (σ : dk_S) (o s a : Nat) (i : Int32) : Int32 := if 0 ≤ i ∧ i < σ o s then σ a i.toNatClampNeg else -1
abbrev sp_chainAt : dk_M := dk_sp 2 true (fun i : Int32 => [.inr 15, .inl i]) (fun _ σ => ∃ k, k ≤ 30 ∧ σ 15 4 = nI k) (fun i σ r σ' => σ' = σ ∧ r = atv σ 15 4 16 i)
set_option maxRecDepth 100000 in
theorem q_chainAt : dk_pure (kX0_at, fX0, [], [], [], 2, false) sp_chainAt := by
  refine dk_sp_pure (fun x x' e => by cases e; rfl) (fun _ => rfl) ?_
  rintro OK i σ ⟨k, hk, hk1⟩ hC
  refine hC.go (fun _ => none) 30 ?_
  refine ⟨fun h => ⟨rfl, (if_neg (fun q => i32_nlt.mpr q.1 h)).symm⟩, fun h => ⟨fun h2 => ⟨rfl, (if_neg (fun q => i32_nle.mpr q.2 h2)).symm⟩, fun h2 => ⟨30, rfl, ?_, rfl, (if_pos ⟨i32_nlt.mp h, i32_nle.mp h2⟩).symm⟩⟩⟩
  have h2 : ¬ σ 15 4 ≤ i := h2
  obtain ⟨j, hj, rfl⟩ := nI_of h
  rw [hk1, nI_leI (by omega) hj] at h2
  exact vp_in_nI (by omega) (by omega)
abbrev sp_circleAt : dk_M := dk_sp 2 true (fun i : Int32 => [.inr 18, .inl i]) (fun _ σ => ∃ k, k ≤ 31 ∧ σ 18 2 = nI k) (fun i σ r σ' => σ' = σ ∧ r = atv σ 18 2 19 i)
set_option maxRecDepth 100000 in
theorem q_circleAt : dk_pure (kX1_at, fX1, [], [], [], 2, false) sp_circleAt := by
  refine dk_sp_pure (fun x x' e => by cases e; rfl) (fun _ => rfl) ?_
  rintro OK i σ ⟨k, hk, hk1⟩ hC
  refine hC.go (fun _ => none) 30 ?_
  refine ⟨fun h => ⟨rfl, (if_neg (fun q => i32_nlt.mpr q.1 h)).symm⟩, fun h => ⟨fun h2 => ⟨rfl, (if_neg (fun q => i32_nle.mpr q.2 h2)).symm⟩, fun h2 => ⟨31, rfl, ?_, rfl, (if_pos ⟨i32_nlt.mp h, i32_nle.mp h2⟩).symm⟩⟩⟩
  have h2 : ¬ σ 18 2 ≤ i := h2
  obtain ⟨j, hj, rfl⟩ := nI_of h
  rw [hk1, nI_leI (by omega) hj] at h2
  exact vp_in_nI (by omega) (by omega)
