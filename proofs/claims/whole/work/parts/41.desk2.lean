/-! the desk's questions -/
abbrev tf (fr oc : Int32) : Prop := ¬ fr = 0 ∧ oc = 0
/-- what is so while the times are fresh -/
def FRS (σ : dk_S) : Prop := tf (σ 0 8) (σ 0 7) → σ 9 1 = σ 1 0 ∧ ES (aC σ) (uC σ) (vC σ) (gC σ) (mC σ) (toI (σ 10)) ∧ (σ 9 2).toInt = pl_len (dC σ) (toI (σ 10)) (nC σ)
def PI (σ : dk_S) : Prop := NW σ ∧ bd 4000000 (σ 10) ∧ FRS σ
theorem bd.le {A B : Int} {f : Nat → Int32} (h : bd A f) (hAB : A ≤ B) : bd B f := fun j hj => by have := h j hj; omega
def startF (n fr oc : Int32) (E L free : Nat → Int32) (t w : Int32) : Int32 :=
  if (0 ≤ t ∧ t < n) ∧ 0 ≤ w ∧ w ≤ 3 then (if tf fr oc then (if w = 0 then E t.toNatClampNeg else if w = 1 then L t.toNatClampNeg else if w = 2 then L t.toNatClampNeg - E t.toNatClampNeg else free t.toNatClampNeg) else -2) else -1
def FRC (σ : dk_S) (k : Nat) : Int32 := Int32.ofInt (fr (aC σ) (uC σ) (vC σ) (gC σ) (toI (σ 10)) k ((σ 9 2).toInt - toI (σ 10) k - dC σ k) (mC σ))
abbrev sp_xstart : dk_M := dk_sp 3 true (fun x : Int32 × Int32 => [.inr 0, .inl x.1, .inl x.2]) (fun _ σ => PI σ) (fun x σ r σ' => σ' = σ ∧ r = startF (σ 1 0) (σ 0 8) (σ 0 7) (σ 10) (σ 11) (FRC σ) x.1 x.2)
theorem i32_sw {w : Int32} {k : Int} {v : Int32} (hv : v.toInt = k) (h : w.toInt = k) : w = v := by rw [dk_eq]; omega
set_option maxRecDepth 100000 in
set_option maxHeartbeats 2000000 in
theorem q_xstart : dk_pure (kX6_start, fX6, [(94, sp_hasTask), (112, sp_timesFresh), (121, sp_freeOf)], [], [], 3, false) sp_xstart := by
  refine dk_sp_pure (fun x x' e => by obtain ⟨a, b⟩ := x; obtain ⟨a', b'⟩ := x'; cases e; rfl) (fun _ => rfl) ?_
  rintro OK ⟨t, w⟩ σ ⟨hN, hB, hF⟩ hC
  have hn := hN.n30
  refine hC.go (fun _ => none) 60 ?_
  refine dk_cs t rfl rfl rfl trivial (fun r σ1 hq => ?_)
  obtain ⟨hσ1, hr⟩ := hq
  rw [hσ1]
  have hr : r = dk_b (0 ≤ t ∧ t < σ 1 0) := hr
  have no : ¬ ((0 ≤ t ∧ t < σ 1 0) ∧ 0 ≤ w ∧ w ≤ 3) → σ = σ ∧ (-1 : Int32) = startF (σ 1 0) (σ 0 8) (σ 0 7) (σ 10) (σ 11) (FRC σ) t w := fun h => ⟨rfl, (if_neg h).symm⟩
  refine ⟨fun h => no (fun q => ?_), fun h => ⟨fun h2 => no (fun q => i32_nlt.mpr q.2.1 h2), fun h2 => ⟨fun h3 => ?_, fun h3 => no (fun q => h3 q.2.2)⟩⟩⟩
  · have h : r = 0 := h
    rw [hr, ← dk_bp q.1] at h
    exact absurd h i32_ne10
  · have h : ¬ r = 0 := h
    have ht : 0 ≤ t ∧ t < σ 1 0 := by
      apply Classical.byContradiction
      intro q
      rw [hr, ← dk_bn q] at h
      exact h rfl
    have h2 : ¬ w < 0 := h2
    have h3 : w ≤ 3 := h3
    have hok : (0 ≤ t ∧ t < σ 1 0) ∧ 0 ≤ w ∧ w ≤ 3 := ⟨ht, i32_nlt.mp h2, h3⟩
    obtain ⟨k, hk, hk1⟩ := (ht_iff hN t).mp ht
    have ek : t.toNatClampNeg = k := by rw [hk1, nI_clamp (by omega)]
    have hit : vp_in t 31 := by rw [hk1]; exact vp_in_nI (by omega) (by omega)
    refine dk_cs () rfl rfl rfl trivial (fun r2 σ2 hq2 => ?_)
    obtain ⟨hσ2, hr2⟩ := hq2
    rw [hσ2]
    have hr2 : r2 = dk_b (tf (σ 0 8) (σ 0 7)) := hr2
    refine ⟨fun h4 => ?_, fun h4 => ?_⟩
    · have h4 : ¬ r2 = 0 := h4
      have htf : tf (σ 0 8) (σ 0 7) := by
        apply Classical.byContradiction
        intro q
        rw [hr2, ← dk_bn q] at h4
        exact h4 rfl
      have e : startF (σ 1 0) (σ 0 8) (σ 0 7) (σ 10) (σ 11) (FRC σ) t w = (if w = 0 then σ 10 t.toNatClampNeg else if w = 1 then σ 11 t.toNatClampNeg else if w = 2 then σ 11 t.toNatClampNeg - σ 10 t.toNatClampNeg else FRC σ t.toNatClampNeg) := by
        unfold startF
        rw [if_pos hok, if_pos htf]
      have w0 : w.toInt = 0 → w = 0 := fun h => i32_sw rfl h
      have w1 : w.toInt = 0 + 1 → w = 1 := fun h => i32_sw rfl h
      have w2 : w.toInt = 0 + 1 + 1 → w = 2 := fun h => i32_sw rfl h
      refine ⟨fun h5 => ⟨by decide, ?_⟩, rfl, fun h5 => ⟨by decide, 31, rfl, hit, rfl, ?_⟩, fun h5 => ⟨by decide, 31, rfl, hit, rfl, ?_⟩, fun h5 => ⟨by decide, 31, rfl, hit, 31, rfl, hit, rfl, ?_⟩, trivial⟩
      · obtain ⟨f1, f2, f3⟩ := hF htf
        have hlen := pl_len_le (d := dC σ) (x := toI (σ 10)) (B := 4001000) (by decide) (n := nC σ) (fun s hs => by
          have := hN.d hs
          have := hB s (by omega)
          unfold toI
          omega)
        refine dk_cs t rfl rfl rfl ⟨hN, ⟨k, hk, hk1⟩, hB.le (by decide), by omega, by omega⟩ (fun r3 σ3 hq3 => ?_)
        obtain ⟨hσ3, hr3⟩ := hq3
        refine ⟨hσ3, ?_⟩
        rw [e]
        have n0 : ¬ w = 0 := fun q => by have h5 : w.toInt < 0 ∨ 2 < w.toInt := h5; rw [q] at h5; revert h5; decide
        have n1 : ¬ w = 1 := fun q => by have h5 : w.toInt < 0 ∨ 2 < w.toInt := h5; rw [q] at h5; revert h5; decide
        have n2 : ¬ w = 2 := fun q => by have h5 : w.toInt < 0 ∨ 2 < w.toInt := h5; rw [q] at h5; revert h5; decide
        rw [if_neg n0, if_neg n1, if_neg n2]
        unfold FRC
        rw [← hr3, Int32.ofInt_toInt]
      · rw [e, if_pos (w0 h5)]
      · rw [e, w1 h5]; rfl
      · rw [e, w2 h5]; rfl
    · have h4 : ¬ ¬ r2 = 0 := h4
      have htf : ¬ tf (σ 0 8) (σ 0 7) := fun q => by
        rw [hr2, ← dk_bp q] at h4
        exact h4 i32_ne10
      refine ⟨rfl, ?_⟩
      show (-2 : Int32) = startF (σ 1 0) (σ 0 8) (σ 0 7) (σ 10) (σ 11) (FRC σ) t w
      unfold startF
      rw [if_pos hok, if_neg htf]
abbrev sp_xlength : dk_M := dk_sp 1 true (fun _ : Unit => [.inr 0]) (fun _ _ => True) (fun _ σ r σ' => σ' = σ ∧ r = if tf (σ 0 8) (σ 0 7) then σ 9 2 else -2)
set_option maxRecDepth 100000 in
theorem q_xlength : dk_pure (kX6_length, fX6, [(112, sp_timesFresh)], [], [], 1, false) sp_xlength := by
  refine dk_sp_pure (fun _ _ _ => rfl) (fun _ => rfl) ?_
  rintro OK _ σ _ hC
  refine hC.go (fun _ => none) 60 ?_
  refine dk_cs () rfl rfl rfl trivial (fun r2 σ2 hq2 => ?_)
  obtain ⟨hσ2, hr2⟩ := hq2
  rw [hσ2]
  have hr2 : r2 = dk_b (tf (σ 0 8) (σ 0 7)) := hr2
  refine ⟨fun h4 => ⟨rfl, ?_⟩, fun h4 => ⟨rfl, ?_⟩⟩
  · have h4 : r2 = 0 := h4
    rw [if_neg (fun q => by rw [hr2, ← dk_bp q] at h4; exact absurd h4 i32_ne10)]
    rfl
  · have h4 : ¬ r2 = 0 := h4
    have htf : tf (σ 0 8) (σ 0 7) := by
      apply Classical.byContradiction
      intro q
      rw [hr2, ← dk_bn q] at h4
      exact h4 rfl
    rw [if_pos htf]
def rowF (fr : Int32) (A B : Int32) (w : Int32) : Int32 := if fr = 0 then -1 else if w = 0 then A else if w = 1 then B else -1
abbrev sp_xrow : dk_M := dk_sp 3 true (fun x : Int32 × Int32 => [.inr 0, .inl x.1, .inl x.2]) (fun _ σ => (∃ k, k ≤ 30 ∧ σ 15 4 = nI k) ∧ ∃ k, k ≤ 31 ∧ σ 18 2 = nI k) (fun x σ r σ' => σ' = σ ∧ r = rowF (σ 0 8) (atv σ 15 4 16 x.2) (atv σ 18 2 19 x.2) x.1)
set_option maxRecDepth 100000 in
theorem q_xrow : dk_pure (kX6_row, fX6, [(127, sp_chainAt), (130, sp_circleAt)], [], [], 3, false) sp_xrow := by
  refine dk_sp_pure (fun x x' e => by obtain ⟨a, b⟩ := x; obtain ⟨a', b'⟩ := x'; cases e; rfl) (fun _ => rfl) ?_
  rintro OK ⟨w, i⟩ σ ⟨h1, h2⟩ hC
  refine hC.go (fun _ => none) 60 ?_
  have e : ∀ r, (σ 0 8 = 0 → r = -1) → (¬ σ 0 8 = 0 → r = if w = 0 then atv σ 15 4 16 i else if w = 1 then atv σ 18 2 19 i else -1) → r = rowF (σ 0 8) (atv σ 15 4 16 i) (atv σ 18 2 19 i) w := fun r q1 q2 => by
    unfold rowF
    by_cases c : σ 0 8 = 0
    · rw [if_pos c]; exact q1 c
    · rw [if_neg c]; exact q2 c
  refine ⟨fun h => ⟨fun h3 => ⟨fun h4 => ⟨rfl, e _ (fun q => absurd q h) (fun _ => ?_)⟩, fun h4 => ?_⟩, fun h3 => ?_⟩, fun h => ⟨rfl, e _ (fun _ => rfl) (fun q => absurd q h)⟩⟩
  · have h4 : ¬ w = 1 := h4
    rw [if_neg h3, if_neg h4]; rfl
  · refine dk_cs i rfl rfl rfl h2 (fun r σ1 hq => ⟨hq.1, e _ (fun q => absurd q h) (fun _ => ?_)⟩)
    have h4 : ¬ ¬ w = 1 := h4
    rw [if_neg h3, if_pos (Classical.not_not.mp h4)]
    exact hq.2
  · refine dk_cs i rfl rfl rfl h1 (fun r σ1 hq => ⟨hq.1, e _ (fun q => absurd q h) (fun _ => ?_)⟩)
    rw [if_pos (Classical.not_not.mp h3)]
    exact hq.2
/-- how many run at a time -/
def rc (σ : dk_S) (s : Int) : Nat := cn (rn (toI (σ 10)) (dC σ) s) (nC σ)
theorem run_pop {x d : Nat → Int} {s : Int} {r : Int32} {n : Nat} (hn : n ≤ 30) (h : ∀ i, i < 32 → bt r i = (decide (i < n) && rn x d s i)) : pop r = cn (rn x d s) n := by
  show cn (bt r) 32 = _
  rw [← cn_cut (rn x d s) (show n ≤ 32 by omega)]
  exact cn_congr h
abbrev sp_xbusy : dk_M := dk_sp 2 true (fun x : Int32 => [.inr 0, .inl x]) (fun _ σ => PI σ) (fun x σ r σ' => σ' = σ ∧ r = if tf (σ 0 8) (σ 0 7) then nI (rc σ x.toInt) else -2)
set_option maxRecDepth 100000 in
theorem q_xbusy : dk_pure (kX6_busy, fX6, [(112, sp_timesFresh), (135, sp_runningAt)], [(138, sp_bitCount)], [], 2, false) sp_xbusy := by
  refine dk_sp_pure (fun x x' e => by cases e; rfl) (fun _ => rfl) ?_
  rintro OK s σ ⟨hN, hB, hF⟩ hC
  have hn := hN.n30
  refine hC.go (fun _ => none) 60 ?_
  refine dk_cs () rfl rfl rfl trivial (fun r2 σ2 hq2 => ?_)
  obtain ⟨hσ2, hr2⟩ := hq2
  rw [hσ2]
  have hr2 : r2 = dk_b (tf (σ 0 8) (σ 0 7)) := hr2
  refine ⟨fun h4 => ⟨rfl, ?_⟩, fun h4 => ?_⟩
  · have h4 : r2 = 0 := h4
    rw [if_neg (fun q => by rw [hr2, ← dk_bp q] at h4; exact absurd h4 i32_ne10)]
    rfl
  · have h4 : ¬ r2 = 0 := h4
    have htf : tf (σ 0 8) (σ 0 7) := by
      apply Classical.byContradiction
      intro q
      rw [hr2, ← dk_bn q] at h4
      exact h4 rfl
    obtain ⟨f1, -, -⟩ := hF htf
    refine dk_cs (9, s) rfl rfl rfl ⟨Or.inl rfl, hN, ⟨nC σ, Nat.le_refl _, by rw [f1]; exact hN.n⟩, hB.le (by decide)⟩ (fun r3 σ3 hq3 => ?_)
    obtain ⟨hσ3, hr3⟩ := hq3
    rw [hσ3]
    refine dk_cs r3 rfl rfl rfl trivial (fun r4 σ4 hq4 => ?_)
    obtain ⟨hσ4, hr4⟩ := hq4
    refine ⟨hσ4, ?_⟩
    rw [if_pos htf]
    have hr4 : r4 = nI (pop r3) := hr4
    have hr3 : ∀ i, i < 32 → bt r3 i = (decide (i < (σ 9 1).toNatClampNeg) && rn (toI (σ 10)) (dC σ) s.toInt i) := hr3
    rw [hr4, run_pop hn (n := nC σ) (by rw [f1] at hr3; exact hr3)]
    rfl
abbrev sp_xpeak : dk_M := dk_sp 2 true (fun x : Int32 => [.inr 0, .inl x]) (fun _ σ => PI σ) (fun x σ r σ' => σ' = σ ∧ (((¬ x = 0 ∧ ¬ x = 1) ∧ r = -1) ∨ ((x = 0 ∨ x = 1) ∧ ¬ tf (σ 0 8) (σ 0 7) ∧ r = -2) ∨ (tf (σ 0 8) (σ 0 7) ∧ ∃ P : Int32, PK (toI (σ 10)) (dC σ) (nC σ) P.toInt ∧ ((x = 0 ∧ r = P) ∨ (x = 1 ∧ r = nI (rc σ P.toInt))))))
set_option maxRecDepth 100000 in
set_option maxHeartbeats 1000000 in
theorem q_xpeak : dk_pure (kX6_peak, fX6, [(112, sp_timesFresh), (143, sp_peakTime), (135, sp_runningAt)], [(138, sp_bitCount)], [], 3, false) sp_xpeak := by
  refine dk_sp_pure (fun x x' e => by cases e; rfl) (fun _ => rfl) ?_
  rintro OK w σ ⟨hN, hB, hF⟩ hC
  have hn := hN.n30
  have main : (w = 0 ∨ w = 1) → OK 11 [(0, .inr 0), (1, .inl w)] [] σ := by
    intro hw
    refine hC.go (fun _ => none) 60 ?_
    refine dk_cs () rfl rfl rfl trivial (fun r2 σ2 hq2 => ?_)
    obtain ⟨hσ2, hr2⟩ := hq2
    rw [hσ2]
    have hr2 : r2 = dk_b (tf (σ 0 8) (σ 0 7)) := hr2
    refine ⟨fun h4 => ?_, fun h4 => ⟨rfl, Or.inr (Or.inl ⟨hw, fun q => ?_, rfl⟩)⟩⟩
    · have h4 : ¬ r2 = 0 := h4
      have htf : tf (σ 0 8) (σ 0 7) := by
        apply Classical.byContradiction
        intro q
        rw [hr2, ← dk_bn q] at h4
        exact h4 rfl
      obtain ⟨f1, f2, -⟩ := hF htf
      have e1 : (σ 9 1).toNatClampNeg = nC σ := by rw [f1]; rfl
      have hk : ∃ k, k ≤ nC σ ∧ σ 9 1 = nI k := ⟨nC σ, Nat.le_refl _, by rw [f1]; exact hN.n⟩
      refine dk_cs () rfl rfl rfl ⟨hN, hk, hB.le (by decide), fun t ht => f2.2.1 t (by rw [e1] at ht; omega)⟩ (fun r3 σ3 hq3 => ?_)
      obtain ⟨hσ3, hr3⟩ := hq3
      rw [hσ3]
      rw [e1] at hr3
      refine ⟨by decide, fun h5 => ?_, fun h5 => ⟨rfl, Or.inr (Or.inr ⟨htf, r3, hr3, Or.inl ⟨Classical.not_not.mp h5, rfl⟩⟩)⟩⟩
      refine dk_cs (9, r3) rfl rfl rfl ⟨Or.inl rfl, hN, hk, hB.le (by decide)⟩ (fun r4 σ4 hq4 => ?_)
      obtain ⟨hσ4, hr4⟩ := hq4
      rw [hσ4]
      refine dk_cs r4 rfl rfl rfl trivial (fun r5 σ5 hq5 => ?_)
      obtain ⟨hσ5, hr5⟩ := hq5
      refine ⟨hσ5, Or.inr (Or.inr ⟨htf, r3, hr3, Or.inr ⟨hw.resolve_left h5, ?_⟩⟩)⟩
      have hr4 : ∀ i, i < 32 → bt r4 i = (decide (i < (σ 9 1).toNatClampNeg) && rn (toI (σ 10)) (dC σ) r3.toInt i) := hr4
      rw [e1] at hr4
      have hr5 : r5 = nI (pop r4) := hr5
      rw [hr5, run_pop hn hr4]
      rfl
    · have h4 : ¬ ¬ r2 = 0 := h4
      rw [hr2, ← dk_bp q] at h4
      exact h4 i32_ne10
  refine hC.go (fun q => if q = 11 then some 2 else none) 60 ?_
  exact ⟨fun h => main (Or.inl h), fun h => ⟨fun h2 => main (Or.inr h2), fun h2 => ⟨rfl, Or.inl ⟨⟨h, h2⟩, rfl⟩⟩⟩⟩
def wofF (fr n : Int32) (g : Nat → Int32) (t : Int32) : Int32 := if fr = 0 then -2 else if 0 ≤ t ∧ t < n then g t.toNatClampNeg else -1
abbrev sp_xworkerOf : dk_M := dk_sp 2 true (fun x : Int32 => [.inr 0, .inl x]) (fun _ σ => NW σ) (fun x σ r σ' => σ' = σ ∧ r = wofF (σ 25 1) (σ 1 0) (σ 26) x)
set_option maxRecDepth 100000 in
theorem q_xworkerOf : dk_pure (kX6_workerOf, fX6, [(94, sp_hasTask)], [], [], 2, false) sp_xworkerOf := by
  refine dk_sp_pure (fun x x' e => by cases e; rfl) (fun _ => rfl) ?_
  rintro OK t σ hN hC
  have hn := NW.n30 hN
  refine hC.go (fun _ => none) 60 ?_
  refine ⟨fun h => ?_, fun h => ⟨rfl, ?_⟩⟩
  · refine dk_cs t rfl rfl rfl trivial (fun r σ1 hq => ?_)
    obtain ⟨hσ1, hr⟩ := hq
    rw [hσ1]
    have hr : r = dk_b (0 ≤ t ∧ t < σ 1 0) := hr
    refine ⟨fun h2 => ⟨rfl, ?_⟩, fun h2 => ⟨30, rfl, ?_, rfl, ?_⟩⟩
    · have h2 : r = 0 := h2
      unfold wofF
      rw [if_neg h, if_neg (fun q => by rw [hr, ← dk_bp q] at h2; exact absurd h2 i32_ne10)]
      rfl
    · have h2 : ¬ r = 0 := h2
      have ht : 0 ≤ t ∧ t < σ 1 0 := by
        apply Classical.byContradiction
        intro q
        rw [hr, ← dk_bn q] at h2
        exact h2 rfl
      obtain ⟨k, hk, hk1⟩ := (ht_iff hN t).mp ht
      show vp_in t 30
      rw [hk1]
      exact vp_in_nI (by omega) (by omega)
    · have h2 : ¬ r = 0 := h2
      have ht : 0 ≤ t ∧ t < σ 1 0 := by
        apply Classical.byContradiction
        intro q
        rw [hr, ← dk_bn q] at h2
        exact h2 rfl
      unfold wofF
      rw [if_neg h, if_pos ht]
  · unfold wofF
    rw [if_pos (Classical.not_not.mp h)]
    rfl
def covF (fr n wk ct cw side id : Int32) : Int32 := if fr = 0 then -2 else if side = 0 ∧ 0 ≤ id ∧ id < n then (ct >>> (id &&& 31)) &&& 1 else if side = 1 ∧ 0 ≤ id ∧ id < wk then (cw >>> (id &&& 31)) &&& 1 else -1
abbrev sp_xcover : dk_M := dk_sp 3 true (fun x : Int32 × Int32 => [.inr 0, .inl x.1, .inl x.2]) (fun _ _ => True) (fun x σ r σ' => σ' = σ ∧ r = covF (σ 25 1) (σ 1 0) (σ 7 0) (σ 25 4) (σ 25 5) x.1 x.2)
set_option maxRecDepth 100000 in
set_option maxHeartbeats 1000000 in
theorem q_xcover : dk_pure (kX6_cover, fX6, [(94, sp_hasTask), (155, sp_hasWorker)], [], [], 3, false) sp_xcover := by
  refine dk_sp_pure (fun x x' e => by obtain ⟨a, b⟩ := x; obtain ⟨a', b'⟩ := x'; cases e; rfl) (fun _ => rfl) ?_
  rintro OK ⟨s, id⟩ σ _ hC
  have e : ¬ σ 25 1 = 0 → covF (σ 25 1) (σ 1 0) (σ 7 0) (σ 25 4) (σ 25 5) s id = if s = 0 ∧ 0 ≤ id ∧ id < σ 1 0 then (σ 25 4 >>> (id &&& 31)) &&& 1 else if s = 1 ∧ 0 ≤ id ∧ id < σ 7 0 then (σ 25 5 >>> (id &&& 31)) &&& 1 else -1 := fun h => by unfold covF; rw [if_neg h]
  have at40 : ¬ σ 25 1 = 0 → ¬ (s = 0 ∧ 0 ≤ id ∧ id < σ 1 0) → OK 40 [(0, .inr 0), (1, .inl s), (2, .inl id)] [] σ := by
    intro hf hn
    refine hC.go (fun _ => none) 60 ?_
    refine ⟨fun h => ⟨rfl, ?_⟩, fun h => ?_⟩
    · show (-1 : Int32) = covF (σ 25 1) (σ 1 0) (σ 7 0) (σ 25 4) (σ 25 5) s id
      rw [e hf, if_neg hn, if_neg (fun q => h q.1)]
    · have h := Classical.not_not.mp h
      refine dk_cs id rfl rfl rfl trivial (fun r σ1 hq => ?_)
      obtain ⟨hσ1, hr⟩ := hq
      rw [hσ1]
      have hr : r = dk_b (0 ≤ id ∧ id < σ 7 0) := hr
      refine ⟨fun h2 => ⟨rfl, ?_⟩, fun h2 => ⟨rfl, ?_⟩⟩
      · have h2 : r = 0 := h2
        show (-1 : Int32) = covF (σ 25 1) (σ 1 0) (σ 7 0) (σ 25 4) (σ 25 5) s id
        rw [e hf, if_neg hn, if_neg (fun q => by rw [hr, ← dk_bp q.2] at h2; exact absurd h2 i32_ne10)]
      · have h2 : ¬ r = 0 := h2
        have ht : 0 ≤ id ∧ id < σ 7 0 := by
          apply Classical.byContradiction
          intro q
          rw [hr, ← dk_bn q] at h2
          exact h2 rfl
        show (σ 25 5 >>> (id &&& 31)) &&& 1 = covF (σ 25 1) (σ 1 0) (σ 7 0) (σ 25 4) (σ 25 5) s id
        rw [e hf, if_neg hn, if_pos ⟨h, ht⟩]
  refine hC.go (fun q => if q = 40 then some 3 else none) 60 ?_
  refine ⟨fun h => ⟨fun h2 => at40 h (fun q => h2 q.1), fun h2 => ?_⟩, fun h => ⟨rfl, ?_⟩⟩
  · have h2 := Classical.not_not.mp h2
    refine dk_cs id rfl rfl rfl trivial (fun r σ1 hq => ?_)
    obtain ⟨hσ1, hr⟩ := hq
    rw [hσ1]
    have hr : r = dk_b (0 ≤ id ∧ id < σ 1 0) := hr
    refine ⟨fun h3 => at40 h (fun q => ?_), fun h3 => ⟨rfl, ?_⟩⟩
    · have h3 : r = 0 := h3
      rw [hr, ← dk_bp q.2] at h3
      exact absurd h3 i32_ne10
    · have h3 : ¬ r = 0 := h3
      have ht : 0 ≤ id ∧ id < σ 1 0 := by
        apply Classical.byContradiction
        intro q
        rw [hr, ← dk_bn q] at h3
        exact h3 rfl
      show (σ 25 4 >>> (id &&& 31)) &&& 1 = covF (σ 25 1) (σ 1 0) (σ 7 0) (σ 25 4) (σ 25 5) s id
      rw [e h, if_pos ⟨h2, ht⟩]
  · show (-2 : Int32) = covF (σ 25 1) (σ 1 0) (σ 7 0) (σ 25 4) (σ 25 5) s id
    unfold covF
    rw [if_pos (Classical.not_not.mp h)]
