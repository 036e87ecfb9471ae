/-! count, delay, assign -/
def countF (a0 a1 a2 a3 a4 oc fr ch ci cv w : Int32) : Int32 := if w = 0 then a0 else if w = 1 then a1 else if w = 2 then a2 else if w = 3 then a3 else if w = 4 then a4 else if w = 5 then oc else if w = 6 then (if fr = 0 then 1 else 0) else if w = 7 then (if fr = 0 then 0 else ch) else if w = 8 then (if fr = 0 then 0 else ci) else if w = 9 then cv else -1
abbrev sp_xcount : dk_M := dk_sp 2 true (fun x : Int32 => [.inr 0, .inl x]) (fun _ _ => True) (fun x σ r σ' => σ' = σ ∧ r = countF (σ 1 0) (σ 1 1) (σ 1 2) (σ 7 0) (σ 7 1) (σ 0 7) (σ 0 8) (σ 15 4) (σ 18 2) (if σ 25 1 = 0 then 0 else nI (pop (σ 25 4)) + nI (pop (σ 25 5))) x)
set_option maxRecDepth 100000 in
set_option maxHeartbeats 2000000 in
theorem q_xcount : dk_pure (kX6_count, fX6, [(196, sp_coverSize)], [(165, sp_asNumber)], [], 2, false) sp_xcount := by
  refine dk_sp_pure (fun x x' e => by cases e; rfl) (fun _ => rfl) ?_
  rintro OK w σ _ hC
  have ps : ∀ {v : Int32} {k : Int}, v.toInt = k → w.toInt = k → w = v := fun h1 h2 => i32_sw h1 h2
  refine hC.go (fun _ => none) 60 ?_
  refine ⟨fun h => ⟨by decide, rfl, ?_⟩, rfl, fun h => ⟨by decide, rfl, ?_⟩, fun h => ⟨by decide, rfl, ?_⟩, fun h => ⟨by decide, rfl, ?_⟩, fun h => ⟨by decide, rfl, ?_⟩, fun h => ⟨by decide, rfl, ?_⟩, fun h => ⟨by decide, rfl, ?_⟩, fun h => ⟨by decide, fun h2 => ?_, fun h2 => ?_⟩, fun h => ⟨by decide, fun h2 => ⟨rfl, ?_⟩, fun h2 => ⟨rfl, ?_⟩⟩, fun h => ⟨by decide, fun h2 => ⟨rfl, ?_⟩, fun h2 => ⟨rfl, ?_⟩⟩, fun h => ⟨by decide, fun h2 => ⟨rfl, ?_⟩, fun h2 => ?_⟩, trivial⟩
  · have h : w.toInt < 0 ∨ 9 < w.toInt := h
    have n : ∀ v : Int32, 0 ≤ v.toInt → v.toInt ≤ 9 → ¬ w = v := fun v h1 h2 q => by rw [q] at h; omega
    unfold countF
    rw [if_neg (n 0 (by decide) (by decide)), if_neg (n 1 (by decide) (by decide)), if_neg (n 2 (by decide) (by decide)), if_neg (n 3 (by decide) (by decide)), if_neg (n 4 (by decide) (by decide)), if_neg (n 5 (by decide) (by decide)), if_neg (n 6 (by decide) (by decide)), if_neg (n 7 (by decide) (by decide)), if_neg (n 8 (by decide) (by decide)), if_neg (n 9 (by decide) (by decide))]
    rfl
  · have h : w = 0 := ps rfl h
    rw [h]; rfl
  · have h : w = 1 := ps rfl h
    rw [h]; rfl
  · have h : w = 2 := ps rfl h
    rw [h]; rfl
  · have h : w = 3 := ps rfl h
    rw [h]; rfl
  · have h : w = 4 := ps rfl h
    rw [h]; rfl
  · have h : w = 5 := ps rfl h
    rw [h]; rfl
  · have h : w = 6 := ps rfl h
    refine dk_cs 0 rfl rfl rfl trivial (fun r σ1 hq => ⟨hq.1, ?_⟩)
    have e : countF (σ 1 0) (σ 1 1) (σ 1 2) (σ 7 0) (σ 7 1) (σ 0 7) (σ 0 8) (σ 15 4) (σ 18 2) (if σ 25 1 = 0 then 0 else nI (pop (σ 25 4)) + nI (pop (σ 25 5))) 6 = if σ 0 8 = 0 then 1 else 0 := rfl
    rw [h, e, if_neg h2]
    exact hq.2
  · have h : w = 6 := ps rfl h
    refine dk_cs 1 rfl rfl rfl trivial (fun r σ1 hq => ⟨hq.1, ?_⟩)
    have e : countF (σ 1 0) (σ 1 1) (σ 1 2) (σ 7 0) (σ 7 1) (σ 0 7) (σ 0 8) (σ 15 4) (σ 18 2) (if σ 25 1 = 0 then 0 else nI (pop (σ 25 4)) + nI (pop (σ 25 5))) 6 = if σ 0 8 = 0 then 1 else 0 := rfl
    rw [h, e, if_pos (Classical.not_not.mp h2)]
    exact hq.2
  · have h : w = 7 := ps rfl h
    have h2 : σ 0 8 = 0 := h2
    have e : countF (σ 1 0) (σ 1 1) (σ 1 2) (σ 7 0) (σ 7 1) (σ 0 7) (σ 0 8) (σ 15 4) (σ 18 2) (if σ 25 1 = 0 then 0 else nI (pop (σ 25 4)) + nI (pop (σ 25 5))) 7 = if σ 0 8 = 0 then 0 else σ 15 4 := rfl
    rw [h, e, if_pos h2]; rfl
  · have h : w = 7 := ps rfl h
    have h2 : ¬ σ 0 8 = 0 := h2
    have e : countF (σ 1 0) (σ 1 1) (σ 1 2) (σ 7 0) (σ 7 1) (σ 0 7) (σ 0 8) (σ 15 4) (σ 18 2) (if σ 25 1 = 0 then 0 else nI (pop (σ 25 4)) + nI (pop (σ 25 5))) 7 = if σ 0 8 = 0 then 0 else σ 15 4 := rfl
    rw [h, e, if_neg h2]
  · have h : w = 8 := ps rfl h
    have h2 : σ 0 8 = 0 := h2
    have e : countF (σ 1 0) (σ 1 1) (σ 1 2) (σ 7 0) (σ 7 1) (σ 0 7) (σ 0 8) (σ 15 4) (σ 18 2) (if σ 25 1 = 0 then 0 else nI (pop (σ 25 4)) + nI (pop (σ 25 5))) 8 = if σ 0 8 = 0 then 0 else σ 18 2 := rfl
    rw [h, e, if_pos h2]; rfl
  · have h : w = 8 := ps rfl h
    have h2 : ¬ σ 0 8 = 0 := h2
    have e : countF (σ 1 0) (σ 1 1) (σ 1 2) (σ 7 0) (σ 7 1) (σ 0 7) (σ 0 8) (σ 15 4) (σ 18 2) (if σ 25 1 = 0 then 0 else nI (pop (σ 25 4)) + nI (pop (σ 25 5))) 8 = if σ 0 8 = 0 then 0 else σ 18 2 := rfl
    rw [h, e, if_neg h2]
  · have h : w = 9 := ps rfl h
    have e : ∀ cv, countF (σ 1 0) (σ 1 1) (σ 1 2) (σ 7 0) (σ 7 1) (σ 0 7) (σ 0 8) (σ 15 4) (σ 18 2) cv 9 = cv := fun _ => rfl
    have h2 : σ 25 1 = 0 := h2
    rw [h, e, if_pos h2]; rfl
  · have h : w = 9 := ps rfl h
    refine dk_cs () rfl rfl rfl trivial (fun r σ1 hq => ⟨hq.1, ?_⟩)
    have e : ∀ cv, countF (σ 1 0) (σ 1 1) (σ 1 2) (σ 7 0) (σ 7 1) (σ 0 7) (σ 0 8) (σ 15 4) (σ 18 2) cv 9 = cv := fun _ => rfl
    have h2 : ¬ σ 25 1 = 0 := h2
    rw [h, e, if_neg h2]
    exact hq.2
def okdl (σ : dk_S) (t by_ : Int32) : Prop := (0 ≤ t ∧ t < σ 1 0) ∧ 0 ≤ by_ ∧ by_ ≤ 1000
/-- what a delay gives -/
def DLY (σ : dk_S) (t by_ r : Int32) : Prop := (¬ okdl σ t by_ ∧ r = -1) ∨ (okdl σ t by_ ∧ ¬ tf (σ 0 8) (σ 0 7) ∧ r = -2) ∨ (okdl σ t by_ ∧ tf (σ 0 8) (σ 0 7) ∧ ((∃ x, LSb (aC σ) (uC σ) (vC σ) (gC σ) (mC σ) (db (toI (σ 10)) t.toNatClampNeg by_.toInt) x ∧ r.toInt = pl_len (dC σ) x (nC σ)) ∨ (¬ FEb (aC σ) (uC σ) (vC σ) (gC σ) (mC σ) (db (toI (σ 10)) t.toNatClampNeg by_.toInt) ∧ r = -3)))
abbrev sp_xdelay : dk_M := dk_sp 3 true (fun x : Int32 × Int32 => [.inr 0, .inl x.1, .inl x.2]) (fun _ σ => PI σ) (fun x σ r σ' => (∃ c f, σ' = dk_up (dk_up σ 12 c) 13 f) ∧ DLY σ x.1 x.2 r)
set_option maxRecDepth 100000 in
set_option maxHeartbeats 2000000 in
theorem q_xdelay : dk_pure (kX6_delay, fX6, [(94, sp_hasTask), (112, sp_timesFresh), (131, sp_findDelayed)], [], [], 3, false) sp_xdelay := by
  refine dk_sp_pure (fun x x' e => by obtain ⟨a, b⟩ := x; obtain ⟨a', b'⟩ := x'; cases e; rfl) (fun _ => rfl) ?_
  rintro OK ⟨t, w⟩ σ ⟨hN, hB, hF⟩ hC
  have hn := hN.n30
  have same : ∃ c f, σ = dk_up (dk_up σ 12 c) 13 f := ⟨σ 12, σ 13, by rw [dk_up_id]; exact dk_up_id.symm⟩
  refine hC.go (fun _ => none) 60 ?_
  refine dk_cs t rfl rfl rfl trivial (fun r σ1 hq => ?_)
  obtain ⟨hσ1, hr⟩ := hq
  rw [hσ1]
  have hr : r = dk_b (0 ≤ t ∧ t < σ 1 0) := hr
  refine ⟨fun h => ⟨same, Or.inl ⟨fun q => ?_, rfl⟩⟩, fun h => ⟨fun h2 => ⟨same, Or.inl ⟨fun q => i32_nlt.mpr q.2.1 h2, rfl⟩⟩, fun h2 => ⟨fun h3 => ?_, fun h3 => ⟨same, Or.inl ⟨fun q => h3 q.2.2, rfl⟩⟩⟩⟩⟩
  · have h : r = 0 := h
    rw [hr, ← dk_bp q.1] at h
    exact absurd h i32_ne10
  · have h : ¬ r = 0 := h
    have ht : 0 ≤ t ∧ t < σ 1 0 := by
      apply Classical.byContradiction
      intro q
      rw [hr, ← dk_bn q] at h
      exact h rfl
    have h2 : ¬ w < 0 := h2
    have h3 : w ≤ 1000 := h3
    have hok : okdl σ t w := ⟨ht, i32_nlt.mp h2, h3⟩
    obtain ⟨k, hk, hk1⟩ := (ht_iff hN t).mp ht
    refine dk_cs () rfl rfl rfl trivial (fun r2 σ2 hq2 => ?_)
    obtain ⟨hσ2, hr2⟩ := hq2
    rw [hσ2]
    have hr2 : r2 = dk_b (tf (σ 0 8) (σ 0 7)) := hr2
    refine ⟨fun h4 => ?_, fun h4 => ⟨same, Or.inr (Or.inl ⟨hok, fun q => ?_, rfl⟩)⟩⟩
    · have h4 : ¬ r2 = 0 := h4
      have htf : tf (σ 0 8) (σ 0 7) := by
        apply Classical.byContradiction
        intro q
        rw [hr2, ← dk_bn q] at h4
        exact h4 rfl
      obtain ⟨f1, f2, f3⟩ := hF htf
      have hw1 : 0 ≤ w.toInt := by have := dk_le.mp hok.2.1; exact this
      have hw2 : w.toInt ≤ 1000 := by have := dk_le.mp hok.2.2; exact this
      refine dk_cs (t, w) rfl rfl rfl ⟨hN, f2, hB, ⟨k, hk, hk1⟩, hw1, hw2⟩ (fun r3 σ3 hq3 => ?_)
      obtain ⟨c, f, hσ3, hr3⟩ := hq3
      rw [hσ3]
      refine ⟨fun h5 => ⟨⟨c, f, rfl⟩, Or.inr (Or.inr ⟨hok, htf, Or.inr ⟨?_, rfl⟩⟩)⟩, fun h5 => ⟨⟨c, f, rfl⟩, Or.inr (Or.inr ⟨hok, htf, Or.inl ?_⟩)⟩⟩
      · have h5 : r3 = 0 := h5
        rcases hr3 with ⟨q, -⟩ | ⟨-, q⟩
        · rw [q] at h5; exact absurd h5 i32_ne10
        · exact q
      · have h5 : ¬ r3 = 0 := h5
        rcases hr3 with ⟨-, q1, q2⟩ | ⟨q, -⟩
        · exact ⟨toI f, q1, q2⟩
        · exact absurd q h5
    · have h4 : ¬ ¬ r2 = 0 := h4
      rw [hr2, ← dk_bp q] at h4
      exact h4 i32_ne10
/-- the tasks that run at a time, as bits -/
def RU (σ : dk_S) (s : Int) (ru : Int32) : Prop := ∀ i, i < 32 → bt ru i = (decide (i < nC σ) && rn (toI (σ 10)) (dC σ) s i)
abbrev sp_xassign : dk_M := dk_sp 2 true (fun x : Int32 => [.inr 0, .inl x]) (fun _ σ => PI σ ∧ skb (σ 8)) (fun x σ r σ' => (¬ tf (σ 0 8) (σ 0 7) ∧ r = -2 ∧ σ' = σ) ∨ (tf (σ 0 8) (σ 0 7) ∧ ∃ ru, RU σ x.toInt ru ∧ ∃ all c' wt' tw' qu fi, σ' = SM σ c' wt' tw' qu fi ∧ r = nI all ∧ (c' 0 = 1 ∧ c' 1 = 1 ∧ c' 2 = x ∧ c' 3 = ru) ∧ MA ru (σ 8) wt' ∧ MI wt' tw' ∧ all ≤ 16 ∧ MT ru (σ 8) all wt' (c' 4) (c' 5)))
set_option maxRecDepth 100000 in
set_option maxHeartbeats 1000000 in
theorem q_xassign : dk_pure (kX6_assign, fX6, [(112, sp_timesFresh), (135, sp_runningAt), (146, sp_mfind)], [], [], 2, false) sp_xassign := by
  refine dk_sp_pure (fun x x' e => by cases e; rfl) (fun _ => rfl) ?_
  rintro OK s σ ⟨⟨hN, hB, hF⟩, hsk⟩ hC
  have hn := hN.n30
  refine hC.go (fun _ => none) 60 ?_
  refine dk_cs () rfl rfl rfl trivial (fun r2 σ2 hq2 => ?_)
  obtain ⟨hσ2, hr2⟩ := hq2
  rw [hσ2]
  have hr2 : r2 = dk_b (tf (σ 0 8) (σ 0 7)) := hr2
  refine ⟨fun h4 => ?_, fun h4 => Or.inl ⟨fun q => ?_, rfl, rfl⟩⟩
  · have h4 : ¬ r2 = 0 := h4
    have htf : tf (σ 0 8) (σ 0 7) := by
      apply Classical.byContradiction
      intro q
      rw [hr2, ← dk_bn q] at h4
      exact h4 rfl
    obtain ⟨f1, -, -⟩ := hF htf
    refine dk_cs (9, s) rfl rfl rfl ⟨Or.inl rfl, hN, ⟨nC σ, Nat.le_refl _, by rw [f1]; exact hN.n⟩, hB.le (by decide)⟩ (fun r3 σ3 hq3 => ?_)
    obtain ⟨hσ3, hr3⟩ := hq3
    rw [hσ3]
    have hr3 : ∀ i, i < 32 → bt r3 i = (decide (i < (σ 9 1).toNatClampNeg) && rn (toI (σ 10)) (dC σ) s.toInt i) := hr3
    have hRU : RU σ s.toInt r3 := by
      rw [f1] at hr3
      exact hr3
    refine dk_cs (s, r3) rfl rfl rfl ⟨fun i hi hb => ?_, hsk⟩ (fun r4 σ4 hq4 => Or.inr ⟨htf, r3, hRU, hq4⟩)
    have hb : bt r3 i = true := hb
    rw [hRU i hi] at hb
    simp only [Bool.and_eq_true, decide_eq_true_eq] at hb
    omega
  · have h4 : ¬ ¬ r2 = 0 := h4
    rw [hr2, ← dk_bp q] at h4
    exact h4 i32_ne10
