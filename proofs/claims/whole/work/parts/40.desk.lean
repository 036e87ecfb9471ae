/-! the desk's public methods -/
def spoil (σ : dk_S) : dk_S := dk_up (dk_up σ 0 (upd (σ 0) 8 0)) 25 (upd (σ 25) 1 0)
def oktask (σ : dk_S) (t : Int32) : Prop := nC σ < 30 ∧ 0 ≤ t.toInt ∧ t.toInt ≤ 1000
abbrev sp_xtask : dk_M := dk_sp 2 true (fun t : Int32 => [.inr 0, .inl t]) (fun _ σ => NW σ) (fun t σ r σ' => (oktask σ t ∧ r = nI (nC σ) ∧ σ' = spoil (dk_up (dk_up σ 2 (upd (σ 2) (nC σ) t)) 1 (upd (σ 1) 0 (nI (nC σ + 1))))) ∨ (¬ oktask σ t ∧ r = -1 ∧ σ' = σ))
set_option maxRecDepth 100000 in
theorem q_xtask : dk_pure (kX6_task, fX6, [(72, sp_addTask), (76, sp_spoilPlan)], [], [], 3, false) sp_xtask := by
  refine dk_sp_pure (fun x x' e => by cases e; rfl) (fun _ => rfl) ?_
  rintro OK t σ hN hC
  have hn30 := NW.n30 hN
  refine hC.go (fun _ => none) 60 ?_
  refine dk_cs t rfl rfl rfl hN (fun r σ1 hq => ?_)
  refine ⟨by decide, fun h => ?_, fun h => ?_⟩
  · have h : r = -1 := h
    rcases hq with ⟨-, hr, -⟩ | hq
    · rw [hr] at h; exact absurd h (nI_m1 (by omega))
    · exact Or.inr hq
  · have h : ¬ r = -1 := h
    rcases hq with ⟨h1, h2, h3⟩ | ⟨-, hr, -⟩
    · exact dk_cs () rfl rfl rfl trivial (fun _ σ2 hq2 => Or.inl ⟨h1, h2, by rw [hq2, h3]; rfl⟩)
    · exact absurd hr h
def addc (σ : dk_S) (a b g : Int32) : dk_S := dk_up (dk_up (dk_up (dk_up σ 3 (upd (σ 3) (mC σ) (if a = -1 then 30 else a))) 4 (upd (σ 4) (mC σ) (if b = -1 then 30 else b))) 5 (upd (σ 5) (mC σ) g)) 1 (upd (σ 1) 1 (nI (mC σ + 1)))
abbrev sp_xconstrain : dk_M := dk_sp 4 true (fun x : Int32 × Int32 × Int32 => [.inr 0, .inl x.1, .inl x.2.1, .inl x.2.2]) (fun _ σ => NW σ) (fun x σ r σ' => (okc σ x.1 x.2.1 x.2.2 ∧ r = nI (mC σ) ∧ σ' = spoil (addc σ x.1 x.2.1 x.2.2)) ∨ (¬ okc σ x.1 x.2.1 x.2.2 ∧ r = -1 ∧ σ' = σ))
set_option maxRecDepth 100000 in
theorem q_xconstrain : dk_pure (kX6_constrain, fX6, [(79, sp_addConstraint), (76, sp_spoilPlan)], [], [], 5, false) sp_xconstrain := by
  refine dk_sp_pure (fun x x' e => by obtain ⟨a, b, c⟩ := x; obtain ⟨a', b', c'⟩ := x'; cases e; rfl) (fun _ => rfl) ?_
  rintro OK ⟨a, b, g⟩ σ hN hC
  have hm := NW.m120 hN
  refine hC.go (fun _ => none) 60 ?_
  refine dk_cs (a, b, g) rfl rfl rfl hN (fun r σ1 hq => ?_)
  refine ⟨by decide, fun h => ?_, fun h => ?_⟩
  · have h : r = -1 := h
    rcases hq with ⟨-, hr, -⟩ | hq
    · rw [hr] at h; exact absurd h (nI_m1 (by omega))
    · exact Or.inr hq
  · have h : ¬ r = -1 := h
    rcases hq with ⟨h1, h2, h3⟩ | ⟨-, hr, -⟩
    · exact dk_cs () rfl rfl rfl trivial (fun _ σ2 hq2 => Or.inl ⟨h1, h2, by rw [hq2, h3]; rfl⟩)
    · exact absurd hr h
def okd (σ : dk_S) (t : Int32) (k : Nat) : Prop := k < mC σ ∧ t = nI k ∧ σ 6 k = 0
abbrev sp_xdrop : dk_M := dk_sp 2 true (fun t : Int32 => [.inr 0, .inl t]) (fun _ σ => NW σ) (fun t σ r σ' => (∃ k, okd σ t k ∧ r = 1 ∧ σ' = spoil (dk_up (dk_up σ 6 (upd (σ 6) k 1)) 1 (upd (σ 1) 2 (σ 1 2 + 1)))) ∨ ((∀ k, ¬ okd σ t k) ∧ r = 0 ∧ σ' = σ))
set_option maxRecDepth 100000 in
theorem q_xdrop : dk_pure (kX6_drop, fX6, [(83, sp_dropConstraint), (76, sp_spoilPlan)], [], [], 3, true) sp_xdrop := by
  refine dk_sp_pure (fun x x' e => by cases e; rfl) (fun _ => rfl) ?_
  rintro OK t σ hN hC
  refine hC.go (fun _ => none) 60 ?_
  refine dk_cs t rfl rfl rfl hN (fun r σ1 hq => ?_)
  refine ⟨by decide, fun h => ?_, fun h => ?_⟩
  · have h : r = 0 := h
    rcases hq with ⟨k, -, -, -, hr, -⟩ | ⟨h1, h2, h3⟩
    · rw [hr] at h; exact absurd h i32_ne10
    · exact ⟨Or.inl h2, Or.inr ⟨fun k q => h1 ⟨k, q⟩, h2, h3⟩⟩
  · have h : ¬ r = 0 := h
    rcases hq with ⟨k, k1, k2, k3, hr, h3⟩ | ⟨h1, h2, h3⟩
    · exact dk_cs () rfl rfl rfl trivial (fun _ σ2 hq2 => ⟨Or.inr hr, Or.inl ⟨k, ⟨k1, k2, k3⟩, hr, by rw [hq2, h3]; rfl⟩⟩)
    · exact absurd h2 h
abbrev sp_xworker : dk_M := dk_sp 1 true (fun _ : Unit => [.inr 0]) (fun _ σ => CW σ) (fun _ σ r σ' => (wC σ < 16 ∧ r = nI (wC σ) ∧ σ' = dk_up (dk_up σ 7 (upd (σ 7) 0 (nI (wC σ + 1)))) 25 (upd (σ 25) 1 0)) ∨ (wC σ = 16 ∧ r = -1 ∧ σ' = σ))
set_option maxRecDepth 100000 in
theorem q_xworker : dk_pure (kX6_worker, fX6, [(87, sp_addWorker)], [], [], 2, false) sp_xworker := by
  refine dk_sp_pure (fun _ _ _ => rfl) (fun _ => rfl) ?_
  rintro OK _ σ hW hC
  refine hC.go (fun _ => none) 60 ?_
  refine dk_cs () rfl rfl rfl hW (fun r σ1 hq => ?_)
  refine ⟨by decide, fun h => ?_, fun h => ⟨Or.inl rfl, ?_⟩⟩
  · have h : r = -1 := h
    rcases hq with ⟨hw, hr, -⟩ | hq
    · rw [hr] at h; exact absurd h (nI_m1 (by omega))
    · exact Or.inr hq
  · have h : ¬ r = -1 := h
    rcases hq with ⟨h1, h2, h3⟩ | ⟨-, hr, -⟩
    · exact Or.inl ⟨h1, h2, by rw [h3]; rfl⟩
    · exact absurd hr h
def oksk (σ : dk_S) (t w : Int32) (k j : Nat) : Prop := k < nC σ ∧ t = nI k ∧ j < wC σ ∧ w = nI j ∧ ¬ bt (σ 8 k) j = true
abbrev sp_xskill : dk_M := dk_sp 3 true (fun x : Int32 × Int32 => [.inr 0, .inl x.1, .inl x.2]) (fun _ σ => NW σ ∧ CW σ) (fun x σ r σ' => (∃ k j, oksk σ x.1 x.2 k j ∧ r = 1 ∧ σ' = dk_up (dk_up (dk_up σ 8 (upd (σ 8) k (σ 8 k ||| (1 : Int32) <<< (nI j &&& 31)))) 7 (upd (σ 7) 1 (σ 7 1 + 1))) 25 (upd (σ 25) 1 0)) ∨ ((∀ k j, ¬ oksk σ x.1 x.2 k j) ∧ r = 0 ∧ σ' = σ))
theorem ht_iff {σ : dk_S} (hN : NW σ) (t : Int32) : (0 ≤ t ∧ t < σ 1 0) ↔ ∃ k, k < nC σ ∧ t = nI k := by
  have hn := hN.n30
  rw [hN.n]
  constructor
  · rintro ⟨h1, h2⟩
    obtain ⟨k, hk, rfl⟩ := nI_of (i32_nlt.mpr h1)
    rw [nI_ltI hk (by omega)] at h2
    exact ⟨k, h2, rfl⟩
  · rintro ⟨k, hk, rfl⟩
    refine ⟨?_, ?_⟩
    · have := (nI_leI (a := 0) (b := k) (by omega) (by omega)).mpr (by omega)
      exact this
    · rw [nI_ltI (by omega) (by omega)]; exact hk
set_option maxRecDepth 100000 in
theorem q_xskill : dk_pure (kX6_skill, fX6, [(94, sp_hasTask), (97, sp_addSkill)], [], [], 4, true) sp_xskill := by
  refine dk_sp_pure (fun x x' e => by obtain ⟨a, b⟩ := x; obtain ⟨a', b'⟩ := x'; cases e; rfl) (fun _ => rfl) ?_
  rintro OK ⟨t, w⟩ σ ⟨hN, hW⟩ hC
  have hn := hN.n30
  refine hC.go (fun _ => none) 60 ?_
  refine dk_cs t rfl rfl rfl trivial (fun r σ1 hq => ?_)
  obtain ⟨hσ1, hr⟩ := hq
  rw [hσ1]
  have hr : r = dk_b (0 ≤ t ∧ t < σ 1 0) := hr
  refine ⟨fun h => ⟨by decide, fun _ => ⟨Or.inl rfl, Or.inr ⟨fun k j q => ?_, rfl, rfl⟩⟩, fun q => absurd rfl q⟩, fun h => ?_⟩
  · have h : r = 0 := h
    rw [hr, ← dk_bp ((ht_iff hN t).mpr ⟨k, q.1, q.2.1⟩)] at h
    exact absurd h i32_ne10
  · have h : ¬ r = 0 := h
    have ht : ∃ k, k < nC σ ∧ t = nI k := by
      apply Classical.byContradiction
      intro q
      rw [hr, ← dk_bn (fun c => q ((ht_iff hN t).mp c))] at h
      exact h rfl
    obtain ⟨k, hk, rfl⟩ := ht
    have ek : (nI k).toNatClampNeg = k := nI_clamp (by omega)
    refine dk_cs (nI k, w) rfl rfl rfl ⟨hW, k, by omega, rfl⟩ (fun r2 σ2 hq2 => ?_)
    refine ⟨fun h2 => ⟨by decide, fun _ => ⟨Or.inl rfl, Or.inr ⟨fun k' j q => ?_, rfl, ?_⟩⟩, fun q => absurd rfl q⟩, fun h2 => ⟨by decide, fun q => absurd q i32_ne10, fun _ => ⟨Or.inl rfl, Or.inr rfl, Or.inl ?_⟩⟩⟩
    · have h2 : r2 = 0 := h2
      rcases hq2 with ⟨j', -, hr2, -⟩ | ⟨h3, -, -⟩
      · rw [hr2] at h2; exact absurd h2 i32_ne10
      · obtain ⟨q1, q2, q3, q4, q5⟩ := q
        have q2 : nI k = nI k' := q2
        rw [nI_eq (by omega) (by omega)] at q2
        subst q2
        exact h3 ⟨j, q3, q4, by show ¬ bt (σ 8 (nI k).toNatClampNeg) j = true; rw [ek]; exact q5⟩
    · have h2 : r2 = 0 := h2
      rcases hq2 with ⟨j', -, hr2, -⟩ | ⟨-, -, h3⟩
      · rw [hr2] at h2; exact absurd h2 i32_ne10
      · exact h3
    · have h2 : ¬ r2 = 0 := h2
      rcases hq2 with ⟨j, hj, -, h3⟩ | ⟨-, hr2, -⟩
      · obtain ⟨q1, q2, q3⟩ := hj
        have q3 : ¬ bt (σ 8 (nI k).toNatClampNeg) j = true := q3
        rw [ek] at q3
        refine ⟨k, j, ⟨hk, rfl, q1, q2, q3⟩, rfl, ?_⟩
        rw [h3]
        show dk_up (dk_up (dk_up σ 8 (upd (σ 8) (nI k).toNatClampNeg (σ 8 (nI k).toNatClampNeg ||| (1 : Int32) <<< (nI j &&& 31)))) 7 (upd (σ 7) 1 (σ 7 1 + 1))) 25 (upd (σ 25) 1 0) = _
        rw [ek]
      · exact absurd hr2 h2
