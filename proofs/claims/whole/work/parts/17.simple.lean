/-! the small methods of the class -/
theorem dk_bp {p : Prop} [Decidable p] (h : p) : (1 : Int32) = dk_b p := (if_pos h).symm
theorem dk_bn {p : Prop} [Decidable p] (h : ¬ p) : (0 : Int32) = dk_b p := (if_neg h).symm
theorem i32_nlt {a b : Int32} : ¬ a < b ↔ b ≤ a := by rw [dk_lt, dk_le]; omega
theorem i32_nle {a b : Int32} : ¬ a ≤ b ↔ b < a := by rw [dk_lt, dk_le]; omega
abbrev sp_hasTask : dk_M := dk_sp 2 true (fun t : Int32 => [.inr 1, .inl t]) (fun _ _ => True) (fun t σ r σ' => σ' = σ ∧ r = dk_b (0 ≤ t ∧ t < σ 1 0))
set_option maxRecDepth 100000 in
theorem q_hasTask : dk_pure (kX4_hasTask, fX4, [], [], [], 2, true) sp_hasTask := by
  refine dk_sp_pure (fun x x' e => by cases e; rfl) (fun _ => rfl) ?_
  intro OK t σ _ hC
  refine hC.go (fun _ => none) 20 ?_
  refine ⟨fun h => ⟨Or.inl rfl, rfl, dk_bn (fun q => ?_)⟩, fun h => ⟨fun h2 => ⟨Or.inl rfl, rfl, dk_bn (fun q => ?_)⟩, fun h2 => ⟨Or.inr rfl, rfl, dk_bp ⟨i32_nlt.mp h, i32_nle.mp h2⟩⟩⟩⟩
  · exact (i32_nlt.mpr q.1) h
  · exact (i32_nle.mpr q.2) h2
abbrev sp_hasWorker : dk_M := dk_sp 2 true (fun t : Int32 => [.inr 7, .inl t]) (fun _ _ => True) (fun t σ r σ' => σ' = σ ∧ r = dk_b (0 ≤ t ∧ t < σ 7 0))
set_option maxRecDepth 100000 in
theorem q_hasWorker : dk_pure (kX2_hasWorker, fX2, [], [], [], 2, true) sp_hasWorker := by
  refine dk_sp_pure (fun x x' e => by cases e; rfl) (fun _ => rfl) ?_
  intro OK t σ _ hC
  refine hC.go (fun _ => none) 20 ?_
  refine ⟨fun h => ⟨Or.inl rfl, rfl, dk_bn (fun q => ?_)⟩, fun h => ⟨fun h2 => ⟨Or.inl rfl, rfl, dk_bn (fun q => ?_)⟩, fun h2 => ⟨Or.inr rfl, rfl, dk_bp ⟨i32_nlt.mp h, i32_nle.mp h2⟩⟩⟩⟩
  · exact (i32_nlt.mpr q.1) h
  · exact (i32_nle.mpr q.2) h2
abbrev sp_hasEnd : dk_M := dk_sp 2 true (fun t : Int32 => [.inr 1, .inl t]) (fun _ _ => True) (fun t σ r σ' => σ' = σ ∧ r = dk_b (t = -1 ∨ (0 ≤ t ∧ t < σ 1 0)))
set_option maxRecDepth 100000 in
theorem q_hasEnd : dk_pure (kX4_hasEnd, fX4, [(53, sp_hasTask)], [], [], 2, true) sp_hasEnd := by
  refine dk_sp_pure (fun x x' e => by cases e; rfl) (fun _ => rfl) ?_
  intro OK t σ _ hC
  refine hC.go (fun _ => none) 30 ?_
  refine ⟨fun h => ⟨Or.inr rfl, rfl, dk_bp (Or.inl h)⟩, fun h => dk_cs t rfl rfl rfl trivial (fun r σ' hq => ?_)⟩
  obtain ⟨hσ, hr⟩ := hq
  rw [hσ]
  refine ⟨fun h2 => ⟨Or.inl rfl, rfl, dk_bn ?_⟩, fun h2 => ⟨Or.inr rfl, rfl, dk_bp ?_⟩⟩
  · have h2 : r = 0 := h2
    rintro (q | q)
    · exact h q
    · rw [hr, ← dk_bp q] at h2; exact absurd h2 (by decide)
  · have h2 : ¬ r = 0 := h2
    right
    apply Classical.byContradiction
    intro q
    rw [hr, ← dk_bn q] at h2
    exact h2 rfl
abbrev sp_placeOf : dk_M := dk_sp 1 true (fun t : Int32 => [.inl t]) (fun _ _ => True) (fun t σ r σ' => σ' = σ ∧ r = if t = -1 then 30 else t)
set_option maxRecDepth 100000 in
theorem q_placeOf : dk_pure (kX4_placeOf, fX4, [], [], [], 1, false) sp_placeOf := by
  refine dk_sp_pure (fun x x' e => by cases e; rfl) (fun _ => rfl) ?_
  intro OK t σ _ hC
  refine hC.go (fun _ => none) 30 ?_
  exact ⟨fun h => ⟨rfl, (if_neg h).symm⟩, fun h => ⟨rfl, (if_pos (Classical.not_not.mp h)).symm⟩⟩
theorem i30 : (30 : Int32).toInt = 30 := rfl
theorem i1000 : (1000 : Int32).toInt = 1000 := rfl
theorem im1000 : (-1000 : Int32).toInt = -1000 := rfl
theorem i0 : (0 : Int32).toInt = 0 := rfl
abbrev sp_addTask : dk_M := dk_sp 2 true (fun t : Int32 => [.inr 1, .inl t]) (fun _ σ => NW σ) (fun t σ r σ' => ((nC σ < 30 ∧ 0 ≤ t.toInt ∧ t.toInt ≤ 1000) ∧ r = nI (nC σ) ∧ σ' = dk_up (dk_up σ 2 (upd (σ 2) (nC σ) t)) 1 (upd (σ 1) 0 (nI (nC σ + 1)))) ∨ (¬ (nC σ < 30 ∧ 0 ≤ t.toInt ∧ t.toInt ≤ 1000) ∧ r = -1 ∧ σ' = σ))
set_option maxRecDepth 100000 in
theorem q_addTask : dk_pure (kX4_addTask, fX4, [], [], [], 2, false) sp_addTask := by
  refine dk_sp_pure (fun x x' e => by cases e; rfl) (fun _ => rfl) ?_
  intro OK t σ hN hC
  have hn := hN.n30
  have e0 := hN.n
  have en : (nI (nC σ)).toNatClampNeg = nC σ := nI_clamp (by omega)
  have ti : (nI (nC σ)).toInt = nC σ := nI_toInt (by omega)
  refine hC.go (fun _ => none) 40 ?_
  refine ⟨fun h => Or.inr ⟨?_, rfl, rfl⟩, fun h => ⟨fun h2 => Or.inr ⟨?_, rfl, rfl⟩, fun h2 => ⟨fun h3 => ⟨30, rfl, ?_, Or.inl ⟨?_, ?_, ?_⟩⟩, fun h3 => Or.inr ⟨?_, rfl, rfl⟩⟩⟩⟩
  · have h : (30 : Int32) ≤ σ 1 0 := h
    rw [e0, dk_le, ti, i30] at h
    omega
  · have h2 : t < 0 := h2
    rw [dk_lt, i0] at h2
    omega
  · have h : ¬ (30 : Int32) ≤ σ 1 0 := h
    rw [e0, dk_le, ti, i30] at h
    show vp_in (σ 1 0) 30
    rw [e0]
    exact vp_in_nI (by omega) (by omega)
  · have h : ¬ (30 : Int32) ≤ σ 1 0 := h
    have h2 : ¬ t < 0 := h2
    have h3 : t ≤ 1000 := h3
    rw [e0, dk_le, ti, i30] at h
    rw [dk_lt, i0] at h2
    rw [dk_le, i1000] at h3
    omega
  · show upd (σ 1) 0 (σ 1 0 + 1) 0 - 1 = nI (nC σ)
    have : upd (σ 1) 0 (σ 1 0 + 1) 0 = σ 1 0 + 1 := by simp [upd]
    rw [this, e0, nI_1, nI_pred]
  · show dk_up (dk_up σ 2 (upd (σ 2) (σ 1 0).toNatClampNeg t)) 1 (upd (σ 1) 0 (σ 1 0 + 1)) = _
    rw [e0, en, nI_1]
  · have h3 : ¬ t ≤ 1000 := h3
    rw [dk_le, i1000] at h3
    omega
def ed (σ : dk_S) (t : Int32) : Prop := t = -1 ∨ ∃ k, k < nC σ ∧ t = nI k
def okc (σ : dk_S) (a b g : Int32) : Prop := mC σ < 120 ∧ ed σ a ∧ ed σ b ∧ ¬ (a = -1 ∧ b = -1) ∧ -1000 ≤ g.toInt ∧ g.toInt ≤ 1000
theorem ed_iff {σ : dk_S} (hN : NW σ) (t : Int32) : (t = -1 ∨ (0 ≤ t ∧ t < σ 1 0)) ↔ ed σ t := by
  unfold ed
  have hn := hN.n30
  constructor
  · rintro (h | ⟨h1, h2⟩)
    · exact Or.inl h
    · right
      obtain ⟨j, hj, e⟩ := nI_of (i32_nlt.mpr h1)
      refine ⟨j, ?_, e⟩
      rw [e, hN.n, nI_ltI hj (by omega)] at h2
      exact h2
  · rintro (h | ⟨k, h1, h2⟩)
    · exact Or.inl h
    · right
      rw [h2, hN.n]
      exact ⟨nI_pos' (by omega), nI_lt h1 (by omega)⟩
abbrev sp_addConstraint : dk_M := dk_sp 4 true (fun x : Int32 × Int32 × Int32 => [.inr 1, .inl x.1, .inl x.2.1, .inl x.2.2]) (fun _ σ => NW σ) (fun x σ r σ' => (okc σ x.1 x.2.1 x.2.2 ∧ r = nI (mC σ) ∧ σ' = dk_up (dk_up (dk_up (dk_up σ 3 (upd (σ 3) (mC σ) (if x.1 = -1 then 30 else x.1))) 4 (upd (σ 4) (mC σ) (if x.2.1 = -1 then 30 else x.2.1))) 5 (upd (σ 5) (mC σ) x.2.2)) 1 (upd (σ 1) 1 (nI (mC σ + 1)))) ∨ (¬ okc σ x.1 x.2.1 x.2.2 ∧ r = -1 ∧ σ' = σ))
set_option maxRecDepth 100000 in
set_option maxHeartbeats 2000000 in
theorem q_addConstraint : dk_pure (kX4_addConstraint, fX4, [(32, sp_hasEnd)], [(39, sp_placeOf)], [], 5, false) sp_addConstraint := by
  refine dk_sp_pure (fun x x' e => by obtain ⟨a, b, c⟩ := x; obtain ⟨a', b', c'⟩ := x'; cases e; rfl) (fun _ => rfl) ?_
  rintro OK ⟨a, b, g⟩ σ hN hC
  have hm := hN.m120
  have e1 := hN.m
  have em : (nI (mC σ)).toNatClampNeg = mC σ := nI_clamp (by omega)
  have ti : (nI (mC σ)).toInt = mC σ := nI_toInt (by omega)
  have rest : ∀ x4 : Int32, ((x4 = 1 ∧ ed σ a ∧ ed σ b ∧ ¬ (a = -1 ∧ b = -1)) ∨ (x4 = 0 ∧ ¬ (ed σ a ∧ ed σ b ∧ ¬ (a = -1 ∧ b = -1)))) → OK 33 [(0, .inr 1), (1, .inl a), (2, .inl b), (3, .inl g), (4, .inl x4)] [] σ := by
    intro x4 hx4
    refine hC.go (fun _ => none) 60 ?_
    refine ⟨fun h => Or.inr ⟨?_, rfl, rfl⟩, fun h => ⟨fun h2 => Or.inr ⟨?_, rfl, rfl⟩, fun h2 => ⟨fun h3 => Or.inr ⟨?_, rfl, rfl⟩, fun h3 => ⟨fun h4 => ?_, fun h4 => Or.inr ⟨?_, rfl, rfl⟩⟩⟩⟩⟩
    · have h : (120 : Int32) ≤ σ 1 1 := h
      rw [e1, dk_le, ti, show (120 : Int32).toInt = 120 from rfl] at h
      rintro ⟨q, -⟩
      omega
    · have h2 : x4 = 0 := h2
      rcases hx4 with ⟨q, -⟩ | ⟨-, q⟩
      · rw [q] at h2; exact absurd h2 (by decide)
      · rintro ⟨-, q1, q2, q3, -⟩
        exact q ⟨q1, q2, q3⟩
    · have h3 : g < -1000 := h3
      rw [dk_lt, im1000] at h3
      rintro ⟨-, -, -, -, q, -⟩
      have q : -1000 ≤ g.toInt := q
      omega
    · have h : ¬ (120 : Int32) ≤ σ 1 1 := h
      rw [e1, dk_le, ti, show (120 : Int32).toInt = 120 from rfl] at h
      have hi : vp_in (σ 1 1) 120 := by rw [e1]; exact vp_in_nI (by omega) (by omega)
      refine dk_cs a rfl rfl rfl trivial (fun r1 σ1 hq => ?_)
      obtain ⟨hσ1, hr1⟩ := hq
      rw [hσ1]
      refine ⟨120, rfl, hi, ?_⟩
      refine dk_cs b rfl rfl rfl trivial (fun r2 σ2 hq => ?_)
      obtain ⟨hσ2, hr2⟩ := hq
      rw [hσ2]
      refine ⟨120, rfl, hi, 120, rfl, hi, Or.inl ⟨⟨?_, ?_⟩, ?_, ?_⟩⟩
      · omega
      · have h2 : ¬ x4 = 0 := h2
        have h3 : ¬ g < -1000 := h3
        have h4 : g ≤ 1000 := h4
        rw [dk_lt, im1000] at h3
        rw [dk_le, i1000] at h4
        rcases hx4 with ⟨-, q1, q2, q3⟩ | ⟨q, -⟩
        · exact ⟨q1, q2, q3, by show -1000 ≤ g.toInt; omega, by show g.toInt ≤ 1000; omega⟩
        · exact absurd q h2
      · show upd (σ 1) 1 (σ 1 1 + 1) 1 - 1 = nI (mC σ)
        have : upd (σ 1) 1 (σ 1 1 + 1) 1 = σ 1 1 + 1 := by simp [upd]
        rw [this, e1, nI_1, nI_pred]
      · show dk_up (dk_up (dk_up (dk_up σ 3 (upd (σ 3) (σ 1 1).toNatClampNeg r1)) 4 (upd (σ 4) (σ 1 1).toNatClampNeg r2)) 5 (upd (σ 5) (σ 1 1).toNatClampNeg g)) 1 (upd (σ 1) 1 (σ 1 1 + 1)) = _
        rw [e1, em, nI_1, hr1, hr2]
    · have h4 : ¬ g ≤ 1000 := h4
      rw [dk_le, i1000] at h4
      rintro ⟨-, -, -, -, -, q⟩
      have q : g.toInt ≤ 1000 := q
      omega
  have r0 : ∀ (p : Prop) [Decidable p] (r : Int32), r = dk_b p → (r = 0 → ¬ p) ∧ (¬ r = 0 → p) := by
    intro p _ r hr
    unfold dk_b at hr
    split at hr
    · next q => exact ⟨fun e => by rw [hr] at e; exact absurd e (by decide), fun _ => q⟩
    · next q => exact ⟨fun _ => q, fun e => absurd hr e⟩
  refine hC.go (fun q => if q = 33 then some 5 else none) 60 ?_
  refine dk_cs a rfl rfl rfl trivial (fun r1 σ1 hq => ?_)
  obtain ⟨hσ1, hr1⟩ := hq
  rw [hσ1]
  obtain ⟨ra0, ra1⟩ := r0 _ r1 hr1
  rw [ed_iff hN] at ra0 ra1
  refine ⟨fun h => ⟨by decide, rest 0 (Or.inr ⟨rfl, fun q => ra0 h q.1⟩)⟩, fun h => ?_⟩
  refine dk_cs b rfl rfl rfl trivial (fun r2 σ2 hq => ?_)
  obtain ⟨hσ2, hr2⟩ := hq
  rw [hσ2]
  obtain ⟨rb0, rb1⟩ := r0 _ r2 hr2
  rw [ed_iff hN] at rb0 rb1
  refine ⟨fun h2 => ⟨by decide, rest 0 (Or.inr ⟨rfl, fun q => rb0 h2 q.2.1⟩)⟩, fun h2 => ⟨fun h3 => ⟨by decide, rest 1 (Or.inl ⟨rfl, ra1 h, rb1 h2, fun q => h3 q.1⟩)⟩, fun h3 => ⟨fun h4 => ⟨by decide, rest 0 (Or.inr ⟨rfl, fun q => q.2.2 ⟨Classical.not_not.mp h3, h4⟩⟩)⟩, fun h4 => ⟨by decide, rest 1 (Or.inl ⟨rfl, ra1 h, rb1 h2, fun q => h4 q.2⟩)⟩⟩⟩⟩
abbrev sp_dropConstraint : dk_M := dk_sp 2 true (fun t : Int32 => [.inr 1, .inl t]) (fun _ σ => NW σ) (fun t σ r σ' => (∃ k, k < mC σ ∧ t = nI k ∧ σ 6 k = 0 ∧ r = 1 ∧ σ' = dk_up (dk_up σ 6 (upd (σ 6) k 1)) 1 (upd (σ 1) 2 (σ 1 2 + 1))) ∨ ((¬ ∃ k, k < mC σ ∧ t = nI k ∧ σ 6 k = 0) ∧ r = 0 ∧ σ' = σ))
set_option maxRecDepth 100000 in
theorem q_dropConstraint : dk_pure (kX4_dropConstraint, fX4, [], [], [], 2, true) sp_dropConstraint := by
  refine dk_sp_pure (fun x x' e => by cases e; rfl) (fun _ => rfl) ?_
  intro OK t σ hN hC
  have hm := hN.m120
  refine hC.go (fun _ => none) 40 ?_
  refine ⟨fun h => ⟨Or.inl rfl, Or.inr ⟨?_, rfl, rfl⟩⟩, fun h => ⟨fun h2 => ⟨Or.inl rfl, Or.inr ⟨?_, rfl, rfl⟩⟩, fun h2 => ?_⟩⟩
  · have h : t < 0 := h
    rintro ⟨k, hk, rfl, -⟩
    exact nI_pos (by omega) h
  · have h2 : σ 1 1 ≤ t := h2
    rintro ⟨k, hk, rfl, -⟩
    rw [hN.m] at h2
    exact nI_ge hk (by omega) h2
  · have h : ¬ t < 0 := h
    have h2 : ¬ σ 1 1 ≤ t := h2
    obtain ⟨k, hk, rfl⟩ := nI_of h
    rw [hN.m, nI_leI (by omega) hk] at h2
    have ek : (nI k).toNatClampNeg = k := nI_clamp hk
    have hi : vp_in (nI k) 120 := vp_in_nI (by omega) (by omega)
    refine ⟨120, rfl, hi, fun h3 => ⟨120, rfl, hi, Or.inr rfl, Or.inr rfl, Or.inl ⟨k, by omega, rfl, ?_, rfl, ?_⟩⟩, fun h3 => ⟨Or.inl rfl, Or.inr ⟨?_, rfl, rfl⟩⟩⟩
    · have h3 : σ 6 (nI k).toNatClampNeg = 0 := h3
      rw [ek] at h3
      exact h3
    · show dk_up (dk_up σ 6 (upd (σ 6) (nI k).toNatClampNeg 1)) 1 (upd (σ 1) 2 (σ 1 2 + 1)) = _
      rw [ek]
    · have h3 : ¬ σ 6 (nI k).toNatClampNeg = 0 := h3
      rw [ek] at h3
      rintro ⟨k2, hk2, e, q⟩
      rw [nI_eq hk (by omega)] at e
      subst e
      exact h3 q
