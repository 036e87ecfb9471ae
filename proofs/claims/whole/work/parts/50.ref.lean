/-! the reference: telling -/
def nM (σ : dk_S) : Nat := (σ 30 0).toNatClampNeg
def mM (σ : dk_S) : Nat := (σ 30 1).toNatClampNeg
def wM (σ : dk_S) : Nat := (σ 30 2).toNatClampNeg
def BM (σ : dk_S) : Prop := (nM σ ≤ 30 ∧ σ 30 0 = nI (nM σ)) ∧ (mM σ ≤ 120 ∧ σ 30 1 = nI (mM σ)) ∧ wM σ ≤ 16 ∧ σ 30 2 = nI (wM σ)
theorem nI_sub1 {n : Nat} (h : n < 1000000) : (nI n - 1).toInt = (n : Int) - 1 := by
  have e := nI_toInt (n := n) (by omega)
  rw [dk_sub (by rw [e]; show -2147483648 ≤ (n : Int) - 1; omega) (by rw [e]; show (n : Int) - 1 < 2147483648; omega), e]
  rfl
theorem in_task {n : Nat} (h : n < 1000000) (t : Int32) : (0 ≤ t ∧ t ≤ nI n - 1) ↔ ∃ k, k < n ∧ t = nI k := by
  rw [dk_le, dk_le, nI_sub1 h, i0]
  constructor
  · rintro ⟨h1, h2⟩
    refine ⟨t.toInt.toNat, by omega, ?_⟩
    rw [dk_eq, nI_toInt (by omega)]
    omega
  · rintro ⟨k, hk, rfl⟩
    rw [nI_toInt (by omega)]
    omega
theorem in_end {n : Nat} (h : n < 1000000) (t : Int32) : (-1 ≤ t ∧ t ≤ nI n - 1) ↔ (t = -1 ∨ ∃ k, k < n ∧ t = nI k) := by
  rw [← in_task h, dk_le, dk_le, dk_le, nI_sub1 h, i0, dk_eq]
  have : (-1 : Int32).toInt = -1 := rfl
  rw [this]
  omega
abbrev sp_in : dk_M := dk_sp 3 true (fun x : Int32 × Int32 × Int32 => [.inl x.1, .inl x.2.1, .inl x.2.2]) (fun _ _ => True) (fun x σ r σ' => σ' = σ ∧ r = dk_b (x.2.1 ≤ x.1 ∧ x.1 ≤ x.2.2))
set_option maxRecDepth 100000 in
theorem q_in : dk_pure (kX7_in, fX7, [], [], nX7, 3, true) sp_in := by
  refine dk_sp_pure (fun x x' e => by obtain ⟨a, b, c⟩ := x; obtain ⟨a', b', c'⟩ := x'; cases e; rfl) (fun _ => rfl) ?_
  rintro OK ⟨v, l, h⟩ σ _ hC
  refine hC.go (fun _ => none) 30 ?_
  exact ⟨fun h1 => ⟨Or.inl rfl, rfl, dk_bn (fun q => i32_nlt.mpr q.1 h1)⟩, fun h1 => ⟨fun h2 => ⟨Or.inl rfl, rfl, dk_bn (fun q => i32_nle.mpr h2 q.2)⟩, fun h2 => ⟨Or.inr rfl, rfl, dk_bp ⟨i32_nlt.mp h1, i32_nlt.mp h2⟩⟩⟩⟩
theorem dk_b0 {p : Prop} [Decidable p] {r : Int32} (h : r = dk_b p) (h0 : r = 0) : ¬ p := fun q => by
  rw [h, ← dk_bp q] at h0
  exact absurd h0 i32_ne10
theorem dk_b1 {p : Prop} [Decidable p] {r : Int32} (h : r = dk_b p) (h0 : ¬ r = 0) : p := by
  apply Classical.byContradiction
  intro q
  rw [h, ← dk_bn q] at h0
  exact h0 rfl
abbrev sp_stales : dk_M := dk_sp 1 false (fun _ : Unit => [.inr 30]) (fun _ _ => True) (fun _ σ _ σ' => σ' = dk_up σ 30 (upd (upd (σ 30) 20 1) 26 1))
set_option maxRecDepth 100000 in
theorem q_stales : dk_pure (kX7_stales, fX7, [], [], nX7, 1, false) sp_stales := by
  refine dk_sp_pure (fun _ _ _ => rfl) (fun _ => rfl) ?_
  rintro OK _ σ _ hC
  refine hC.go (fun _ => none) 30 ?_
  refine ⟨Or.inr rfl, Or.inr rfl, ?_⟩
  show dk_up (dk_up σ 30 (upd (σ 30) 20 1)) 30 (upd (upd (σ 30) 20 1) 26 1) = _
  rw [dk_up_up]
def spoilM (σ : dk_S) : dk_S := dk_up σ 30 (upd (upd (σ 30) 20 1) 26 1)
def oktaskM (σ : dk_S) (t : Int32) : Prop := nM σ < 30 ∧ 0 ≤ t.toInt ∧ t.toInt ≤ 1000
abbrev sp_mtask : dk_M := dk_sp 2 true (fun t : Int32 => [.inr 30, .inl t]) (fun _ σ => BM σ) (fun t σ r σ' => (oktaskM σ t ∧ r = nI (nM σ) ∧ σ' = spoilM (dk_up (dk_up (dk_up σ 31 (upd (σ 31) (nM σ) t)) 36 (upd (σ 36) (nM σ) 0)) 30 (upd (σ 30) 0 (nI (nM σ + 1))))) ∨ (¬ oktaskM σ t ∧ r = -1 ∧ σ' = σ))
set_option maxRecDepth 100000 in
set_option maxHeartbeats 1000000 in
theorem q_mtask : dk_pure (kX7_task, fX7, [(83, sp_stales)], [(79, sp_in)], nX7, 2, false) sp_mtask := by
  refine dk_sp_pure (fun x x' e => by cases e; rfl) (fun _ => rfl) ?_
  rintro OK t σ ⟨⟨hn, hn1⟩, -, -⟩ hC
  have en : (σ 30 0).toNatClampNeg = nM σ := rfl
  have ei : (nI (nM σ)).toNatClampNeg = nM σ := nI_clamp (by omega)
  refine hC.go (fun _ => none) 60 ?_
  refine ⟨fun h => Or.inr ⟨fun q => ?_, rfl, rfl⟩, fun h => ?_⟩
  · have h : σ 30 0 = nI 30 := h
    rw [hn1, nI_eq (by omega) (by omega)] at h
    have := q.1
    omega
  · have h : ¬ σ 30 0 = nI 30 := h
    rw [hn1, nI_eq (by omega) (by omega)] at h
    refine dk_cs (t, 0, 1000) rfl rfl rfl trivial (fun r σ1 hq => ?_)
    obtain ⟨hσ1, hr⟩ := hq
    rw [hσ1]
    have hr : r = dk_b (0 ≤ t ∧ t ≤ 1000) := hr
    have hi : vp_in (σ 30 0) 30 := by rw [hn1]; exact vp_in_nI (by omega) (by omega)
    refine ⟨fun h2 => ⟨30, rfl, hi, 30, rfl, hi, ?_⟩, fun h2 => Or.inr ⟨fun q => dk_b0 hr (Classical.not_not.mp h2) ⟨dk_le.mpr (by rw [i0]; exact q.2.1), dk_le.mpr (by rw [i1000]; exact q.2.2)⟩, rfl, rfl⟩⟩
    have hok : oktaskM σ t := by
      have q := dk_b1 hr h2
      have q1 := dk_le.mp q.1
      have q2 := dk_le.mp q.2
      rw [i0] at q1
      rw [i1000] at q2
      exact ⟨by omega, q1, q2⟩
    refine dk_cs () rfl rfl rfl trivial (fun _ σ2 hq2 => Or.inl ⟨hok, ?_, ?_⟩)
    · rw [hq2]
      show σ 30 0 + 1 - 1 = nI (nM σ)
      rw [hn1, nI_1, nI_pred]
    · rw [hq2]
      show dk_up (dk_up (dk_up (dk_up σ 31 (upd (σ 31) (σ 30 0).toNatClampNeg t)) 36 (upd (σ 36) (σ 30 0).toNatClampNeg 0)) 30 (upd (σ 30) 0 (σ 30 0 + 1))) 30 (upd (upd (upd (σ 30) 0 (σ 30 0 + 1)) 20 1) 26 1) = _
      rw [en]
      have : σ 30 0 + 1 = nI (nM σ + 1) := by
        conv => lhs; rw [hn1]
        rw [nI_1]
      rw [this]
      rfl
def edM (n : Nat) (t : Int32) : Prop := t = -1 ∨ ∃ k, k < n ∧ t = nI k
def okcM (σ : dk_S) (a b g : Int32) : Prop := mM σ < 120 ∧ edM (nM σ) a ∧ edM (nM σ) b ∧ ¬ (a = -1 ∧ b = -1) ∧ -1000 ≤ g.toInt ∧ g.toInt ≤ 1000
def addcM (σ : dk_S) (a b g : Int32) : dk_S := dk_up (dk_up (dk_up (dk_up (dk_up σ 32 (upd (σ 32) (mM σ) a)) 33 (upd (σ 33) (mM σ) b)) 34 (upd (σ 34) (mM σ) g)) 35 (upd (σ 35) (mM σ) 0)) 30 (upd (σ 30) 1 (nI (mM σ + 1)))
abbrev sp_mconstrain : dk_M := dk_sp 4 true (fun x : Int32 × Int32 × Int32 => [.inr 30, .inl x.1, .inl x.2.1, .inl x.2.2]) (fun _ σ => BM σ) (fun x σ r σ' => (okcM σ x.1 x.2.1 x.2.2 ∧ r = nI (mM σ) ∧ σ' = spoilM (addcM σ x.1 x.2.1 x.2.2)) ∨ (¬ okcM σ x.1 x.2.1 x.2.2 ∧ r = -1 ∧ σ' = σ))
set_option maxRecDepth 100000 in
set_option maxHeartbeats 2000000 in
theorem q_mconstrain : dk_pure (kX7_constrain, fX7, [(83, sp_stales)], [(79, sp_in)], nX7, 4, false) sp_mconstrain := by
  refine dk_sp_pure (fun x x' e => by obtain ⟨a, b, c⟩ := x; obtain ⟨a', b', c'⟩ := x'; cases e; rfl) (fun _ => rfl) ?_
  rintro OK ⟨a, b, g⟩ σ ⟨⟨hn, hn1⟩, ⟨hm, hm1⟩, -⟩ hC
  have em : (σ 30 1).toNatClampNeg = mM σ := rfl
  have no : ¬ okcM σ a b g → OK 60 [(0, .inr 30), (1, .inl a), (2, .inl b), (3, .inl g)] [] σ := fun h => by
    refine hC.go (fun _ => none) 60 ?_
    exact Or.inr ⟨h, rfl, rfl⟩
  have at47 : mM σ < 120 → edM (nM σ) a → edM (nM σ) b → ¬ (a = -1 ∧ b = -1) → OK 47 [(0, .inr 30), (1, .inl a), (2, .inl b), (3, .inl g)] [] σ := by
    intro k1 k2 k3 k4
    have hi : vp_in (σ 30 1) 120 := by rw [hm1]; exact vp_in_nI (by omega) (by omega)
    refine hC.go (fun q => if q = 60 then some 4 else none) 60 ?_
    refine dk_cs (g, -1000, 1000) rfl rfl rfl trivial (fun r σ1 hq => ?_)
    obtain ⟨hσ1, hr⟩ := hq
    rw [hσ1]
    have hr : r = dk_b (-1000 ≤ g ∧ g ≤ 1000) := hr
    refine ⟨fun h2 => ⟨120, rfl, hi, 120, rfl, hi, 120, rfl, hi, 120, rfl, hi, Or.inl rfl, ?_⟩, fun h2 => no (fun q => dk_b0 hr (Classical.not_not.mp h2) ⟨dk_le.mpr (by rw [im1000]; exact q.2.2.2.2.1), dk_le.mpr (by rw [i1000]; exact q.2.2.2.2.2)⟩)⟩
    have hok : okcM σ a b g := by
      have q := dk_b1 hr h2
      have q1 := dk_le.mp q.1
      have q2 := dk_le.mp q.2
      rw [im1000] at q1
      rw [i1000] at q2
      exact ⟨k1, k2, k3, k4, q1, q2⟩
    refine dk_cs () rfl rfl rfl trivial (fun _ σ2 hq2 => Or.inl ⟨hok, ?_, ?_⟩)
    · rw [hq2]
      show σ 30 1 + 1 - 1 = nI (mM σ)
      rw [hm1, nI_1, nI_pred]
    · rw [hq2]
      show dk_up (dk_up (dk_up (dk_up (dk_up (dk_up σ 32 (upd (σ 32) (σ 30 1).toNatClampNeg a)) 33 (upd (σ 33) (σ 30 1).toNatClampNeg b)) 34 (upd (σ 34) (σ 30 1).toNatClampNeg g)) 35 (upd (σ 35) (σ 30 1).toNatClampNeg 0)) 30 (upd (σ 30) 1 (σ 30 1 + 1))) 30 (upd (upd (upd (σ 30) 1 (σ 30 1 + 1)) 20 1) 26 1) = _
      rw [em]
      have : σ 30 1 + 1 = nI (mM σ + 1) := by
        conv => lhs; rw [hm1]
        rw [nI_1]
      rw [this]
      rfl
  refine hC.go (fun q => if q = 60 ∨ q = 47 then some 4 else none) 60 ?_
  refine ⟨fun h => no (fun q => ?_), fun h => ?_⟩
  · have h : σ 30 1 = nI 120 := h
    rw [hm1, nI_eq (by omega) (by omega)] at h
    have := q.1
    omega
  · have h : ¬ σ 30 1 = nI 120 := h
    rw [hm1, nI_eq (by omega) (by omega)] at h
    refine dk_cs (a, -1, σ 30 0 - 1) rfl rfl rfl trivial (fun r σ1 hq => ?_)
    obtain ⟨hσ1, hr⟩ := hq
    rw [hσ1]
    have hr : r = dk_b (-1 ≤ a ∧ a ≤ σ 30 0 - 1) := hr
    have ea : (-1 ≤ a ∧ a ≤ σ 30 0 - 1) ↔ edM (nM σ) a := by
      conv => lhs; rw [hn1]
      exact in_end (by omega) a
    refine ⟨fun h2 => no (fun q => dk_b0 hr h2 (ea.mpr q.2.1)), fun h2 => ?_⟩
    refine dk_cs (b, -1, σ 30 0 - 1) rfl rfl rfl trivial (fun r2 σ2 hq2 => ?_)
    obtain ⟨hσ2, hr2⟩ := hq2
    rw [hσ2]
    have hr2 : r2 = dk_b (-1 ≤ b ∧ b ≤ σ 30 0 - 1) := hr2
    have eb : (-1 ≤ b ∧ b ≤ σ 30 0 - 1) ↔ edM (nM σ) b := by
      conv => lhs; rw [hn1]
      exact in_end (by omega) b
    have k1 : mM σ < 120 := by omega
    have k2 := ea.mp (dk_b1 hr h2)
    refine ⟨fun h3 => no (fun q => dk_b0 hr2 h3 (eb.mpr q.2.2.1)), fun h3 => ⟨fun h4 => at47 k1 k2 (eb.mp (dk_b1 hr2 h3)) (fun q => h4 q.1), fun h4 => ⟨fun h5 => no (fun q => q.2.2.2.1 ⟨Classical.not_not.mp h4, h5⟩), fun h5 => at47 k1 k2 (eb.mp (dk_b1 hr2 h3)) (fun q => h5 q.2)⟩⟩⟩
def okdM (σ : dk_S) (t : Int32) (k : Nat) : Prop := k < mM σ ∧ t = nI k ∧ σ 35 k = 0
abbrev sp_mdrop : dk_M := dk_sp 2 true (fun t : Int32 => [.inr 30, .inl t]) (fun _ σ => BM σ) (fun t σ r σ' => (∃ k, okdM σ t k ∧ r = 1 ∧ σ' = spoilM (dk_up (dk_up σ 35 (upd (σ 35) k 1)) 30 (upd (σ 30) 3 (σ 30 3 + 1)))) ∨ ((∀ k, ¬ okdM σ t k) ∧ r = 0 ∧ σ' = σ))
set_option maxRecDepth 100000 in
set_option maxHeartbeats 1000000 in
theorem q_mdrop : dk_pure (kX7_drop, fX7, [(83, sp_stales)], [(79, sp_in)], nX7, 2, true) sp_mdrop := by
  refine dk_sp_pure (fun x x' e => by cases e; rfl) (fun _ => rfl) ?_
  rintro OK t σ ⟨-, ⟨hm, hm1⟩, -⟩ hC
  refine hC.go (fun _ => none) 60 ?_
  refine dk_cs (t, 0, σ 30 1 - 1) rfl rfl rfl trivial (fun r σ1 hq => ?_)
  obtain ⟨hσ1, hr⟩ := hq
  rw [hσ1]
  have hr : r = dk_b (0 ≤ t ∧ t ≤ σ 30 1 - 1) := hr
  have et : (0 ≤ t ∧ t ≤ σ 30 1 - 1) ↔ ∃ k, k < mM σ ∧ t = nI k := by
    conv => lhs; rw [hm1]
    exact in_task (by omega) t
  refine ⟨fun h => ⟨Or.inl rfl, Or.inr ⟨fun k q => dk_b0 hr h (et.mpr ⟨k, q.1, q.2.1⟩), rfl, rfl⟩⟩, fun h => ?_⟩
  obtain ⟨k, hk, hk1⟩ := et.mp (dk_b1 hr h)
  subst hk1
  have ek : (nI k).toNatClampNeg = k := nI_clamp (by omega)
  have hi : vp_in (nI k) 120 := vp_in_nI (by omega) (by omega)
  refine ⟨120, rfl, hi, fun h2 => ⟨120, rfl, hi, Or.inr rfl, ?_⟩, fun h2 => ⟨Or.inl rfl, Or.inr ⟨fun k' q => ?_, rfl, rfl⟩⟩⟩
  · have h2 : σ 35 (nI k).toNatClampNeg = 0 := h2
    rw [ek] at h2
    refine dk_cs () rfl rfl rfl trivial (fun _ σ2 hq2 => ⟨Or.inr rfl, Or.inl ⟨k, ⟨hk, rfl, h2⟩, rfl, ?_⟩⟩)
    rw [hq2]
    show dk_up (dk_up (dk_up σ 35 (upd (σ 35) (nI k).toNatClampNeg 1)) 30 (upd (σ 30) 3 (σ 30 3 + 1))) 30 (upd (upd (upd (σ 30) 3 (σ 30 3 + 1)) 20 1) 26 1) = _
    rw [ek]
    rfl
  · have h2 : ¬ σ 35 (nI k).toNatClampNeg = 0 := h2
    rw [ek] at h2
    obtain ⟨q1, q2, q3⟩ := q
    rw [nI_eq (by omega) (by omega)] at q2
    subst q2
    exact h2 q3
abbrev sp_mworker : dk_M := dk_sp 1 true (fun _ : Unit => [.inr 30]) (fun _ σ => BM σ) (fun _ σ r σ' => (wM σ < 16 ∧ r = nI (wM σ) ∧ σ' = dk_up σ 30 (upd (upd (σ 30) 2 (nI (wM σ + 1))) 26 1)) ∨ (wM σ = 16 ∧ r = -1 ∧ σ' = σ))
set_option maxRecDepth 100000 in
theorem q_mworker : dk_pure (kX7_worker, fX7, [], [], nX7, 1, false) sp_mworker := by
  refine dk_sp_pure (fun _ _ _ => rfl) (fun _ => rfl) ?_
  rintro OK _ σ ⟨-, -, hw, hw1⟩ hC
  refine hC.go (fun _ => none) 60 ?_
  refine ⟨fun h => ⟨Or.inr rfl, Or.inl ⟨?_, ?_, ?_⟩⟩, fun h => Or.inr ⟨?_, rfl, rfl⟩⟩
  · have h : ¬ σ 30 2 = nI 16 := h
    rw [hw1, nI_eq (by omega) (by omega)] at h
    omega
  · show σ 30 2 + 1 - 1 = nI (wM σ)
    rw [hw1, nI_1, nI_pred]
  · show dk_up (dk_up σ 30 (upd (σ 30) 2 (σ 30 2 + 1))) 30 (upd (upd (σ 30) 2 (σ 30 2 + 1)) 26 1) = _
    have : σ 30 2 + 1 = nI (wM σ + 1) := by
      conv => lhs; rw [hw1]
      rw [nI_1]
    rw [dk_up_up, this]
  · have h : ¬ ¬ σ 30 2 = nI 16 := h
    rw [hw1, nI_eq (by omega) (by omega)] at h
    exact Classical.not_not.mp h
def okskM (σ : dk_S) (t w : Int32) (k j : Nat) : Prop := k < nM σ ∧ t = nI k ∧ j < wM σ ∧ w = nI j ∧ ¬ bt (σ 36 k) j = true
abbrev sp_mskill : dk_M := dk_sp 3 true (fun x : Int32 × Int32 => [.inr 30, .inl x.1, .inl x.2]) (fun _ σ => BM σ) (fun x σ r σ' => (∃ k j, okskM σ x.1 x.2 k j ∧ r = 1 ∧ σ' = dk_up (dk_up σ 36 (upd (σ 36) k (σ 36 k ||| (1 : Int32) <<< (nI j &&& 31)))) 30 (upd (upd (σ 30) 10 (σ 30 10 + 1)) 26 1)) ∨ ((∀ k j, ¬ okskM σ x.1 x.2 k j) ∧ r = 0 ∧ σ' = σ))
set_option maxRecDepth 100000 in
set_option maxHeartbeats 1000000 in
theorem q_mskill : dk_pure (kX7_skill, fX7, [], [(79, sp_in)], nX7, 3, true) sp_mskill := by
  refine dk_sp_pure (fun x x' e => by obtain ⟨a, b⟩ := x; obtain ⟨a', b'⟩ := x'; cases e; rfl) (fun _ => rfl) ?_
  rintro OK ⟨t, w⟩ σ ⟨⟨hn, hn1⟩, -, hw, hw1⟩ hC
  refine hC.go (fun _ => none) 60 ?_
  refine dk_cs (t, 0, σ 30 0 - 1) rfl rfl rfl trivial (fun r σ1 hq => ?_)
  obtain ⟨hσ1, hr⟩ := hq
  rw [hσ1]
  have hr : r = dk_b (0 ≤ t ∧ t ≤ σ 30 0 - 1) := hr
  have et : (0 ≤ t ∧ t ≤ σ 30 0 - 1) ↔ ∃ k, k < nM σ ∧ t = nI k := by
    conv => lhs; rw [hn1]
    exact in_task (by omega) t
  refine ⟨fun h => ⟨Or.inl rfl, Or.inr ⟨fun k j q => dk_b0 hr h (et.mpr ⟨k, q.1, q.2.1⟩), rfl, rfl⟩⟩, fun h => ?_⟩
  obtain ⟨k, hk, hk1⟩ := et.mp (dk_b1 hr h)
  subst hk1
  have ek : (nI k).toNatClampNeg = k := nI_clamp (by omega)
  have hi : vp_in (nI k) 30 := vp_in_nI (by omega) (by omega)
  refine dk_cs (w, 0, σ 30 2 - 1) rfl rfl rfl trivial (fun r2 σ2 hq2 => ?_)
  obtain ⟨hσ2, hr2⟩ := hq2
  rw [hσ2]
  have hr2 : r2 = dk_b (0 ≤ w ∧ w ≤ σ 30 2 - 1) := hr2
  have ew : (0 ≤ w ∧ w ≤ σ 30 2 - 1) ↔ ∃ j, j < wM σ ∧ w = nI j := by
    conv => lhs; rw [hw1]
    exact in_task (by omega) w
  refine ⟨fun h2 => ⟨Or.inl rfl, Or.inr ⟨fun k j q => dk_b0 hr2 h2 (ew.mpr ⟨j, q.2.2.1, q.2.2.2.1⟩), rfl, rfl⟩⟩, fun h2 => ?_⟩
  obtain ⟨j, hj, hj1⟩ := ew.mp (dk_b1 hr2 h2)
  subst hj1
  refine ⟨30, rfl, hi, fun h3 => ⟨30, rfl, hi, 30, rfl, hi, Or.inr rfl, Or.inr rfl, Or.inl ⟨k, j, ⟨hk, rfl, hj, rfl, ?_⟩, rfl, ?_⟩⟩, fun h3 => ⟨Or.inl rfl, Or.inr ⟨fun k' j' q => ?_, rfl, rfl⟩⟩⟩
  · have h3 : ¬ (σ 36 (nI k).toNatClampNeg >>> (nI j &&& 31)) &&& 1 = 1 := h3
    rw [ek, b_get (by omega)] at h3
    intro q
    rw [if_pos q] at h3
    exact h3 rfl
  · show dk_up (dk_up (dk_up σ 36 (upd (σ 36) (nI k).toNatClampNeg (σ 36 (nI k).toNatClampNeg ||| (1 : Int32) <<< (nI j &&& 31)))) 30 (upd (σ 30) 10 (σ 30 10 + 1))) 30 (upd (upd (σ 30) 10 (σ 30 10 + 1)) 26 1) = _
    rw [dk_up_up, ek]
  · have h3 : ¬ ¬ (σ 36 (nI k).toNatClampNeg >>> (nI j &&& 31)) &&& 1 = 1 := h3
    rw [ek, b_get (by omega)] at h3
    obtain ⟨q1, q2, q3, q4, q5⟩ := q
    have q2 : nI k = nI k' := q2
    have q4 : nI j = nI j' := q4
    rw [nI_eq (by omega) (by omega)] at q2 q4
    subst q2
    subst q4
    rw [if_neg q5] at h3
    exact h3 (fun c => i32_ne10 c.symm)
