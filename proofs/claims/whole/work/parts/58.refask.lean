/-! the reference's answers out of what is kept -/
def KB1 (σ : dk_S) : Prop := (∀ t, t < nC σ → 0 ≤ (σ 43 t).toInt ∧ (σ 43 t).toInt ≤ 4000000) ∧ 0 ≤ (σ 30 23).toInt ∧ (σ 30 23).toInt ≤ 4001000 ∧ ∀ t, t < nC σ → (σ 43 t).toInt + dC σ t ≤ (σ 30 23).toInt
def KB (σ : dk_S) : Prop := tfM (σ 30 20) (σ 30 19) → KB1 σ
def FRM (σ : dk_S) (k : Nat) : Int32 := Int32.ofInt (fr (aC σ) (uC σ) (vC σ) (gC σ) (xv (nC σ) (σ 43)) k ((σ 30 23).toInt - xv (nC σ) (σ 43) k - dC σ k) (mC σ))
abbrev sp_mfree : dk_M := dk_sp 2 true (fun x : Int32 => [.inr 30, .inl x]) (fun x σ => RN σ ∧ KB1 σ ∧ ∃ k, k < nC σ ∧ x = nI k) (fun x σ r σ' => σ' = σ ∧ r = FRM σ x.toNatClampNeg)
set_option maxRecDepth 100000 in
set_option maxHeartbeats 2000000 in
theorem q_mfree : dk_pure (kX7_free, fX7, [], [], nX7, 5, false) sp_mfree := by
  refine dk_sp_pure (fun x x' e => by cases e; rfl) (fun _ => rfl) ?_
  rintro OK x σ ⟨⟨hN, hn, hm, hdur, hcon, hoo⟩, ⟨hB, hL1, hL2, hend⟩, k, hk, rfl⟩ hC
  have hn30 := hN.n30
  have hm120 := hN.m120
  have ek : (nI k).toNatClampNeg = k := nI_clamp (by omega)
  have hik : vp_in (nI k) 30 := vp_in_nI (by omega) (by omega)
  obtain ⟨X, hX⟩ : ∃ X, X = xv (nC σ) (σ 43) := ⟨_, rfl⟩
  have hXt : ∀ t, t < nC σ → X t = (σ 43 t).toInt := fun t ht => by rw [hX]; exact if_pos ht
  have hXn : ∀ t, ¬ t < nC σ → X t = 0 := fun t ht => by rw [hX]; exact if_neg ht
  have hXb : ∀ t, 0 ≤ X t ∧ X t ≤ 4000000 := fun t => by
    by_cases c : t < nC σ
    · rw [hXt t c]; exact hB t c
    · rw [hXn t c]; omega
  have hXk := hXb k
  have hdk := hN.d hk
  obtain ⟨I0, hI0⟩ : ∃ I0, I0 = (σ 30 23).toInt - X k - dC σ k := ⟨_, rfl⟩
  have hfb : ∀ m, m ≤ mC σ → -20000000 ≤ fr (aC σ) (uC σ) (vC σ) (gC σ) X k I0 m ∧ fr (aC σ) (uC σ) (vC σ) (gC σ) X k I0 m ≤ 20000000 := fun m hm' => fr_bd (by omega) (fun c hc => by
    have h1 := hXb (vC σ c)
    have h2 := hN.g (show c < mC σ by omega)
    omega)
  have loop : ∀ (d c : Nat) (z : Int32), c + d = mC σ → z.toInt = fr (aC σ) (uC σ) (vC σ) (gC σ) X k I0 c → OK 21 [(0, .inr 30), (1, .inl (nI k)), (2, .inl z), (3, .inl (nI c))] [] σ := by
    intro d
    induction d with
    | zero =>
      intro c z hc hz
      have hc : c = mC σ := by omega
      subst hc
      refine hC.go (fun _ => none) 60 ?_
      refine ⟨fun _ => ⟨rfl, ?_⟩, fun h => ?_⟩
      · rw [ek]
        unfold FRM
        rw [← hX, ← hI0, ← hz, Int32.ofInt_toInt]
      · exfalso
        apply h
        show σ 30 1 ≤ nI (mC σ)
        rw [hm]
        exact Int32.le_refl _
    | succ d ih =>
      intro c z hc hz
      have hcm : c < mC σ := by omega
      have ec : (nI c).toNatClampNeg = c := nI_clamp (by omega)
      have hic : vp_in (nI c) 120 := vp_in_nI (by omega) (by omega)
      obtain ⟨k1, k2, k3, k4⟩ := hcon c hcm
      have hu := hN.u hcm
      have hv := hN.v hcm
      have hg := hN.g hcm
      have hzb := hfb c (by omega)
      have ogi : ∀ k t, k < 31 → t < 30 → (og k = nI t ↔ k = t) := fun k t hk ht => by
        unfold og
        by_cases c : k = 30
        · rw [if_pos c]
          exact ⟨fun q => absurd q.symm (nI_m1 (by omega)), fun q => by omega⟩
        · rw [if_neg c, nI_eq (by omega) (by omega)]
      have next : ∀ z' : Int32, z'.toInt = fr (aC σ) (uC σ) (vC σ) (gC σ) X k I0 (c + 1) → OK 21 [(0, .inr 30), (1, .inl (nI k)), (2, .inl z'), (3, .inl (nI c + 1))] [] σ := fun z' hz' => by
        rw [nI_1]; exact ih (c + 1) z' (by omega) hz'
      have skip : ¬ (aC σ c = true ∧ uC σ c = k ∧ ¬ vC σ c = k) → OK 21 [(0, .inr 30), (1, .inl (nI k)), (2, .inl z), (3, .inl (nI c + 1))] [] σ := fun hno => next z (by
        show z.toInt = if aC σ c = true ∧ uC σ c = k ∧ ¬ vC σ c = k ∧ X (vC σ c) - X k - gC σ c < fr (aC σ) (uC σ) (vC σ) (gC σ) X k I0 c then _ else fr (aC σ) (uC σ) (vC σ) (gC σ) X k I0 c
        rw [if_neg (fun q => hno ⟨q.1, q.2.1, q.2.2.1⟩)]
        exact hz)
      have at85 : (aC σ c = true ∧ uC σ c = k ∧ ¬ vC σ c = k) → ∀ y : Int32, y.toInt = X (vC σ c) → OK 85 [(0, .inr 30), (1, .inl (nI k)), (2, .inl z), (3, .inl (nI c))] [.inl y] σ := by
        intro hyes y hy
        have h1 := hXb (vC σ c)
        have hs1 : (y - σ 43 (nI k).toNatClampNeg).toInt = X (vC σ c) - X k := by
          rw [ek, ← hy, hXt k hk]
          rw [hXt k hk] at hXk
          exact dk_sub (by omega) (by omega)
        have hs2 : (y - σ 43 (nI k).toNatClampNeg - σ 34 (nI c).toNatClampNeg).toInt = X (vC σ c) - X k - gC σ c := by
          rw [← hs1, ec, k3]
          exact dk_sub (by unfold gC at hg; omega) (by unfold gC at hg; omega)
        have efr : fr (aC σ) (uC σ) (vC σ) (gC σ) X k I0 (c + 1) = if X (vC σ c) - X k - gC σ c < z.toInt then X (vC σ c) - X k - gC σ c else z.toInt := by
          show (if aC σ c = true ∧ uC σ c = k ∧ ¬ vC σ c = k ∧ X (vC σ c) - X k - gC σ c < fr (aC σ) (uC σ) (vC σ) (gC σ) X k I0 c then X (vC σ c) - X k - gC σ c else fr (aC σ) (uC σ) (vC σ) (gC σ) X k I0 c) = _
          rw [← hz]
          by_cases q : X (vC σ c) - X k - gC σ c < z.toInt
          · rw [if_pos ⟨hyes.1, hyes.2.1, hyes.2.2, q⟩, if_pos q]
          · rw [if_neg (fun r => q r.2.2.2), if_neg q]
        refine hC.go (fun q => if q = 21 then some 4 else none) 60 ?_
        refine ⟨30, rfl, hik, 120, rfl, hic, by decide, fun h => ⟨by decide, by decide, next z ?_⟩, fun h => ⟨by decide, by decide, next _ ?_⟩⟩
        · have h : z ≤ y - σ 43 (nI k).toNatClampNeg - σ 34 (nI c).toNatClampNeg := h
          rw [dk_le, hs2] at h
          rw [efr, if_neg (by omega)]
        · have h : ¬ z ≤ y - σ 43 (nI k).toNatClampNeg - σ 34 (nI c).toNatClampNeg := h
          rw [dk_le, hs2] at h
          rw [efr, if_pos (by omega)]
          exact hs2
      refine hC.go (fun q => if q = 21 ∨ q = 85 then some 4 else none) 60 ?_
      refine ⟨fun h => ?_, fun _ => ⟨120, rfl, hic, fun h => ⟨by decide, skip (fun q => ?_)⟩, fun h => ⟨120, rfl, hic, fun h2 => ⟨by decide, skip (fun q => ?_)⟩, fun h2 => ⟨120, rfl, hic, fun h3 => ⟨120, rfl, hic, fun h4 => ⟨120, rfl, hic, 30, rfl, ?_, at85 ?_ _ ?_⟩, fun h4 => at85 ?_ _ ?_⟩, fun h3 => ⟨by decide, skip (fun q => ?_)⟩⟩⟩⟩⟩
      · exfalso
        have h : σ 30 1 ≤ nI c := h
        rw [hm] at h
        exact nI_ge hcm (by omega) h
      · have h : ¬ σ 35 (nI c).toNatClampNeg = 0 := h
        rw [ec, k4] at h
        exact h (of_decide_eq_true q.1)
      all_goals
        have h : ¬ ¬ σ 35 (nI c).toNatClampNeg = 0 := h
        rw [ec, k4] at h
        have ha : aC σ c = true := decide_eq_true (Classical.not_not.mp h)
      · have h2 : ¬ σ 32 (nI c).toNatClampNeg = nI k := h2
        rw [ec, k1, ogi _ _ hu.2.2 (by omega)] at h2
        exact h2 q.2.1
      all_goals
        have h2 : ¬ ¬ σ 32 (nI c).toNatClampNeg = nI k := h2
        rw [ec, k1, ogi _ _ hu.2.2 (by omega)] at h2
        have h2 := Classical.not_not.mp h2
      · have h4 : 0 ≤ σ 33 (nI c).toNatClampNeg := h4
        rw [ec, k2, og_lt hv.2.2] at h4
        show vp_in (σ 33 (nI c).toNatClampNeg) 30
        rw [ec, k2, og_ne h4]
        exact vp_in_nI (by omega) (by omega)
      · have h3 : ¬ σ 33 (nI c).toNatClampNeg = nI k := h3
        rw [ec, k2, ogi _ _ hv.2.2 (by omega)] at h3
        exact ⟨ha, h2, h3⟩
      · have h4 : 0 ≤ σ 33 (nI c).toNatClampNeg := h4
        rw [ec, k2, og_lt hv.2.2] at h4
        show (σ 43 (σ 33 (nI c).toNatClampNeg).toNatClampNeg).toInt = _
        rw [ec, k2, og_ne h4, nI_clamp (by omega), hXt _ (by omega)]
      · have h3 : ¬ σ 33 (nI c).toNatClampNeg = nI k := h3
        rw [ec, k2, ogi _ _ hv.2.2 (by omega)] at h3
        exact ⟨ha, h2, h3⟩
      · have h4 : ¬ 0 ≤ σ 33 (nI c).toNatClampNeg := h4
        rw [ec, k2, og_lt hv.2.2] at h4
        rw [Classical.not_not.mp h4, hXn 30 (by omega)]
        rfl
      · have h3 : ¬ ¬ σ 33 (nI c).toNatClampNeg = nI k := h3
        rw [ec, k2, ogi _ _ hv.2.2 (by omega)] at h3
        exact h3 q.2.2
  refine hC.go (fun q => if q = 21 then some 4 else none) 60 ?_
  refine ⟨30, rfl, hik, 30, rfl, hik, by decide, by decide, loop (mC σ) 0 _ (by omega) ?_⟩
  show (σ 30 23 - σ 43 (nI k).toNatClampNeg - σ 31 (nI k).toNatClampNeg).toInt = I0
  rw [ek, hdur k hk, hI0, hXt k hk]
  rw [hXt k hk] at hXk
  have s1 : (σ 30 23 - σ 43 k).toInt = (σ 30 23).toInt - (σ 43 k).toInt := dk_sub (by omega) (by omega)
  have s2 : (σ 30 23 - σ 43 k - σ 2 k).toInt = (σ 30 23 - σ 43 k).toInt - (σ 2 k).toInt := dk_sub (by unfold dC at hdk; omega) (by unfold dC at hdk; omega)
  rw [s2, s1]
  rfl
def startM (n st so : Int32) (E L free : Nat → Int32) (t w : Int32) : Int32 :=
  if (0 ≤ t ∧ t ≤ n - 1) ∧ 0 ≤ w ∧ w ≤ 3 then (if tfM st so then (if w = 0 then E t.toNatClampNeg else if w = 1 then L t.toNatClampNeg else if w = 2 then L t.toNatClampNeg - E t.toNatClampNeg else free t.toNatClampNeg) else -2) else -1
abbrev sp_mstart : dk_M := dk_sp 3 true (fun x : Int32 × Int32 => [.inr 30, .inl x.1, .inl x.2]) (fun _ σ => RN σ ∧ KB σ) (fun x σ r σ' => σ' = σ ∧ r = startM (σ 30 0) (σ 30 20) (σ 30 19) (σ 43) (σ 44) (FRM σ) x.1 x.2)
set_option maxRecDepth 100000 in
set_option maxHeartbeats 2000000 in
theorem q_mstart : dk_pure (kX7_start, fX7, [(156, sp_has), (160, sp_mfree)], [(79, sp_in)], nX7, 3, false) sp_mstart := by
  refine dk_sp_pure (fun x x' e => by obtain ⟨a, b⟩ := x; obtain ⟨a', b'⟩ := x'; cases e; rfl) (fun _ => rfl) ?_
  rintro OK ⟨t, w⟩ σ ⟨hR, hK⟩ hC
  have hN := hR.1
  have hn := hR.2.1
  have hn30 := hN.n30
  have no : ¬ ((0 ≤ t ∧ t ≤ σ 30 0 - 1) ∧ 0 ≤ w ∧ w ≤ 3) → σ = σ ∧ (-1 : Int32) = startM (σ 30 0) (σ 30 20) (σ 30 19) (σ 43) (σ 44) (FRM σ) t w := fun h => ⟨rfl, (if_neg h).symm⟩
  refine hC.go (fun _ => none) 60 ?_
  refine dk_cs (t, 0, σ 30 0 - 1) rfl rfl rfl trivial (fun r σ1 hq => ?_)
  obtain ⟨hσ1, hr⟩ := hq
  rw [hσ1]
  have hr : r = dk_b (0 ≤ t ∧ t ≤ σ 30 0 - 1) := hr
  refine ⟨fun h => no (fun q => dk_b0 hr h q.1), fun h => dk_cs (w, 0, 3) rfl rfl rfl trivial (fun r2 σ2 hq2 => ?_)⟩
  obtain ⟨hσ2, hr2⟩ := hq2
  rw [hσ2]
  have hr2 : r2 = dk_b (0 ≤ w ∧ w ≤ 3) := hr2
  refine ⟨fun h2 => ?_, fun h2 => no (fun q => dk_b0 hr2 (Classical.not_not.mp h2) q.2)⟩
  have ht := dk_b1 hr h
  have hw := dk_b1 hr2 h2
  refine dk_cs () rfl rfl rfl trivial (fun r3 σ3 hq3 => ?_)
  obtain ⟨hσ3, hr3⟩ := hq3
  rw [hσ3]
  have hr3 : r3 = dk_b (tfM (σ 30 20) (σ 30 19)) := hr3
  refine ⟨fun h3 => ?_, fun h3 => ⟨rfl, ?_⟩⟩
  · have htf := dk_b1 hr3 h3
    have e : startM (σ 30 0) (σ 30 20) (σ 30 19) (σ 43) (σ 44) (FRM σ) t w = (if w = 0 then σ 43 t.toNatClampNeg else if w = 1 then σ 44 t.toNatClampNeg else if w = 2 then σ 44 t.toNatClampNeg - σ 43 t.toNatClampNeg else FRM σ t.toNatClampNeg) := by
      unfold startM
      rw [if_pos ⟨ht, hw⟩, if_pos htf]
    obtain ⟨k, hk, hk1⟩ : ∃ k, k < nC σ ∧ t = nI k := by
      rw [hn] at ht
      exact (in_task (by omega) t).mp ht
    have hit : vp_in t 30 := by rw [hk1]; exact vp_in_nI (by omega) (by omega)
    refine ⟨fun h4 => ⟨fun h5 => ⟨fun h6 => ?_, fun h6 => ⟨30, rfl, hit, 30, rfl, hit, rfl, ?_⟩⟩, fun h5 => ⟨30, rfl, hit, rfl, ?_⟩⟩, fun h4 => ⟨30, rfl, hit, rfl, ?_⟩⟩
    · have h4 : ¬ w = 0 := h4
      have h5 : ¬ w = 1 := h5
      have h6 : ¬ w = 2 := h6
      refine dk_cs t rfl rfl rfl ⟨hR, hK htf, k, hk, hk1⟩ (fun r4 σ4 hq4 => ⟨hq4.1, ?_⟩)
      rw [e, if_neg h4, if_neg h5, if_neg h6]
      exact hq4.2
    · have h6 : ¬ ¬ w = 2 := h6
      rw [e, Classical.not_not.mp h6]
      rfl
    · have h5 : ¬ ¬ w = 1 := h5
      rw [e, Classical.not_not.mp h5]
      rfl
    · have h4 : ¬ ¬ w = 0 := h4
      rw [e, Classical.not_not.mp h4]
      rfl
  · show (-2 : Int32) = startM (σ 30 0) (σ 30 20) (σ 30 19) (σ 43) (σ 44) (FRM σ) t w
    unfold startM
    rw [if_pos ⟨ht, hw⟩, if_neg (dk_b0 hr3 (Classical.not_not.mp h3))]
abbrev sp_mlength : dk_M := dk_sp 1 true (fun _ : Unit => [.inr 30]) (fun _ _ => True) (fun _ σ r σ' => σ' = σ ∧ r = if tfM (σ 30 20) (σ 30 19) then σ 30 23 else -2)
set_option maxRecDepth 100000 in
theorem q_mlength : dk_pure (kX7_length, fX7, [(156, sp_has)], [], nX7, 1, false) sp_mlength := by
  refine dk_sp_pure (fun _ _ _ => rfl) (fun _ => rfl) ?_
  rintro OK _ σ _ hC
  refine hC.go (fun _ => none) 60 ?_
  refine dk_cs () rfl rfl rfl trivial (fun r σ1 hq => ?_)
  obtain ⟨hσ1, hr⟩ := hq
  rw [hσ1]
  have hr : r = dk_b (tfM (σ 30 20) (σ 30 19)) := hr
  exact ⟨fun h => ⟨rfl, by rw [if_neg (dk_b0 hr h)]; rfl⟩, fun h => ⟨rfl, by rw [if_pos (dk_b1 hr h)]⟩⟩
abbrev sp_mrow : dk_M := dk_sp 3 true (fun x : Int32 × Int32 => [.inr 30, .inl x.1, .inl x.2]) (fun _ σ => (∃ k, k ≤ 30 ∧ σ 30 17 = nI k) ∧ ∃ k, k ≤ 31 ∧ σ 30 15 = nI k) (fun x σ r σ' => σ' = σ ∧ r = if ¬ σ 30 20 = 0 then -1 else if x.1 = 0 then atv σ 30 17 41 x.2 else if x.1 = 1 then atv σ 30 15 40 x.2 else -1)
set_option maxRecDepth 100000 in
set_option maxHeartbeats 1000000 in
theorem q_mrow : dk_pure (kX7_row, fX7, [], [], nX7, 3, false) sp_mrow := by
  refine dk_sp_pure (fun x x' e => by obtain ⟨a, b⟩ := x; obtain ⟨a', b'⟩ := x'; cases e; rfl) (fun _ => rfl) ?_
  rintro OK ⟨w, i⟩ σ ⟨⟨k1, hk1, hk1'⟩, k2, hk2, hk2'⟩ hC
  obtain ⟨R, hRd⟩ : ∃ R, R = if ¬ σ 30 20 = 0 then (-1 : Int32) else if w = 0 then atv σ 30 17 41 i else if w = 1 then atv σ 30 15 40 i else -1 := ⟨_, rfl⟩
  have fin : ∀ r, r = R → σ = σ ∧ r = if ¬ σ 30 20 = 0 then (-1 : Int32) else if w = 0 then atv σ 30 17 41 i else if w = 1 then atv σ 30 15 40 i else -1 := fun r h => ⟨rfl, by rw [h, hRd]⟩
  have neg : i < 0 → R = -1 := fun h => by
    have hn : ¬ (0 ≤ i) := fun q => i32_nlt.mpr q h
    have a1 : atv σ 30 17 41 i = -1 := if_neg (fun q => hn q.1)
    have a2 : atv σ 30 15 40 i = -1 := if_neg (fun q => hn q.1)
    rw [hRd, a1, a2]
    repeat' split
    all_goals rfl
  have at11 : R = -1 → OK 11 [(0, .inr 30), (1, .inl w), (2, .inl i)] [] σ := fun h => by
    refine hC.go (fun _ => none) 60 ?_
    exact fin _ h.symm
  refine hC.go (fun q => if q = 11 then some 3 else none) 60 ?_
  refine ⟨fun h => at11 ?_, fun h => ⟨fun h2 => ?_, fun h2 => at11 ?_⟩⟩
  · have h : ¬ σ 30 20 = 0 := h
    rw [hRd, if_pos h]
  · have h : ¬ ¬ σ 30 20 = 0 := h
    have h2 : 0 ≤ i := h2
    refine ⟨fun h3 => ⟨fun h4 => fin _ ?_, fun h4 => ⟨fun h5 => fin _ ?_, fun h5 => ⟨40, rfl, ?_, fin _ ?_⟩⟩⟩, fun h3 => ⟨fun h4 => fin _ ?_, fun h4 => ⟨30, rfl, ?_, fin _ ?_⟩⟩⟩
    · have h3 : ¬ w = 0 := h3
      have h4 : ¬ w = 1 := h4
      rw [hRd, if_neg h, if_neg h3, if_neg h4]; rfl
    · have h3 : ¬ w = 0 := h3
      have h4 : ¬ ¬ w = 1 := h4
      have h5 : σ 30 15 ≤ i := h5
      rw [hRd, if_neg h, if_neg h3, if_pos (Classical.not_not.mp h4)]
      unfold atv
      rw [if_neg (fun q => i32_nle.mpr q.2 h5)]
      rfl
    · have h5 : ¬ σ 30 15 ≤ i := h5
      obtain ⟨j, hj, rfl⟩ := nI_of (i32_nlt.mpr h2)
      rw [hk2', nI_leI (by omega) hj] at h5
      exact vp_in_nI (by omega) (by omega)
    · have h3 : ¬ w = 0 := h3
      have h4 : ¬ ¬ w = 1 := h4
      have h5 : ¬ σ 30 15 ≤ i := h5
      rw [hRd, if_neg h, if_neg h3, if_pos (Classical.not_not.mp h4)]
      unfold atv
      rw [if_pos ⟨h2, i32_nle.mp h5⟩]
    · have h3 : ¬ ¬ w = 0 := h3
      have h4 : σ 30 17 ≤ i := h4
      rw [hRd, if_neg h, if_pos (Classical.not_not.mp h3)]
      unfold atv
      rw [if_neg (fun q => i32_nle.mpr q.2 h4)]
      rfl
    · have h4 : ¬ σ 30 17 ≤ i := h4
      obtain ⟨j, hj, rfl⟩ := nI_of (i32_nlt.mpr h2)
      rw [hk1', nI_leI (by omega) hj] at h4
      exact vp_in_nI (by omega) (by omega)
    · have h3 : ¬ ¬ w = 0 := h3
      have h4 : ¬ σ 30 17 ≤ i := h4
      rw [hRd, if_neg h, if_pos (Classical.not_not.mp h3)]
      unfold atv
      rw [if_pos ⟨h2, i32_nle.mp h4⟩]
  · have h2 : ¬ 0 ≤ i := h2
    exact neg (i32_nle.mp h2)
def okdlM (σ : dk_S) (t by_ : Int32) : Prop := (0 ≤ t ∧ t ≤ σ 30 0 - 1) ∧ 0 ≤ by_ ∧ by_ ≤ 1000
def DLM (σ : dk_S) (t by_ r : Int32) : Prop := (¬ okdlM σ t by_ ∧ r = -1) ∨ (okdlM σ t by_ ∧ ¬ tfM (σ 30 20) (σ 30 19) ∧ r = -2) ∨ (okdlM σ t by_ ∧ tfM (σ 30 20) (σ 30 19) ∧ ((∃ x, LSb (aC σ) (uC σ) (vC σ) (gC σ) (mC σ) (db (xv (nC σ) (σ 43)) t.toNatClampNeg by_.toInt) x ∧ r.toInt = pl_len (dC σ) x (nC σ)) ∨ (¬ FEb (aC σ) (uC σ) (vC σ) (gC σ) (mC σ) (db (xv (nC σ) (σ 43)) t.toNatClampNeg by_.toInt) ∧ r = -3)))
abbrev sp_mdelay : dk_M := dk_sp 3 true (fun x : Int32 × Int32 => [.inr 30, .inl x.1, .inl x.2]) (fun _ σ => RN σ ∧ KB σ) (fun x σ r σ' => (∃ f, σ' = dk_up σ 37 f) ∧ DLM σ x.1 x.2 r)
set_option maxRecDepth 100000 in
set_option maxHeartbeats 2000000 in
theorem q_mdelay : dk_pure (kX7_delay, fX7, [(156, sp_has), (135, sp_soonest), (141, sp_longest)], [(79, sp_in)], nX7, 3, false) sp_mdelay := by
  refine dk_sp_pure (fun x x' e => by obtain ⟨a, b⟩ := x; obtain ⟨a', b'⟩ := x'; cases e; rfl) (fun _ => rfl) ?_
  rintro OK ⟨t, w⟩ σ ⟨hR, hK⟩ hC
  have hN := hR.1
  have hn := hR.2.1
  have hn30 := hN.n30
  have same : ∃ f, σ = dk_up σ 37 f := ⟨σ 37, dk_up_id.symm⟩
  refine hC.go (fun _ => none) 60 ?_
  refine dk_cs (t, 0, σ 30 0 - 1) rfl rfl rfl trivial (fun r σ1 hq => ?_)
  obtain ⟨hσ1, hr⟩ := hq
  rw [hσ1]
  have hr : r = dk_b (0 ≤ t ∧ t ≤ σ 30 0 - 1) := hr
  refine ⟨fun h => ⟨same, Or.inl ⟨fun q => dk_b0 hr h q.1, rfl⟩⟩, fun h => dk_cs (w, 0, 1000) rfl rfl rfl trivial (fun r2 σ2 hq2 => ?_)⟩
  obtain ⟨hσ2, hr2⟩ := hq2
  rw [hσ2]
  have hr2 : r2 = dk_b (0 ≤ w ∧ w ≤ 1000) := hr2
  refine ⟨fun h2 => ?_, fun h2 => ⟨same, Or.inl ⟨fun q => dk_b0 hr2 (Classical.not_not.mp h2) q.2, rfl⟩⟩⟩
  have hok : okdlM σ t w := ⟨dk_b1 hr h, dk_b1 hr2 h2⟩
  refine dk_cs () rfl rfl rfl trivial (fun r3 σ3 hq3 => ?_)
  obtain ⟨hσ3, hr3⟩ := hq3
  rw [hσ3]
  have hr3 : r3 = dk_b (tfM (σ 30 20) (σ 30 19)) := hr3
  refine ⟨fun h3 => ?_, fun h3 => ⟨same, Or.inr (Or.inl ⟨hok, dk_b0 hr3 (Classical.not_not.mp h3), rfl⟩)⟩⟩
  have htf := dk_b1 hr3 h3
  obtain ⟨k, hk, hk1⟩ : ∃ k, k < nC σ ∧ t = nI k := by
    have := hok.1
    rw [hn] at this
    exact (in_task (by omega) t).mp this
  subst hk1
  have ek : (nI k).toNatClampNeg = k := nI_clamp (by omega)
  have hit : vp_in (nI k) 30 := vp_in_nI (by omega) (by omega)
  have hb := (hK htf).1 k hk
  have hw1 : 0 ≤ w.toInt := dk_le.mp hok.2.1
  have hw2 : w.toInt ≤ 1000 := dk_le.mp hok.2.2
  obtain ⟨le, hle⟩ : ∃ le, le = σ 43 (nI k).toNatClampNeg + w := ⟨_, rfl⟩
  have hlei : le.toInt = (σ 43 k).toInt + w.toInt := by
    rw [hle, ek]
    exact dk_add (by omega) (by omega)
  have eb : bX (nC σ) (nI k) le = db (xv (nC σ) (σ 43)) k w.toInt := by
    funext j
    unfold bX db
    have exk : xv (nC σ) (σ 43) k = (σ 43 k).toInt := if_pos hk
    by_cases c : j = k
    · subst c
      rw [if_pos rfl, exk]
      have : xv (nC σ) (bS (nI j) le) j = (bS (nI j) le j).toInt := if_pos hk
      rw [this]
      unfold bS
      by_cases c2 : 0 < le
      · rw [if_pos ⟨rfl, c2⟩, hlei]
      · rw [if_neg (fun q => c2 q.2), i0]
        rw [dk_lt, hlei, i0] at c2
        omega
    · rw [if_neg c]
      unfold xv
      by_cases c2 : j < nC σ
      · rw [if_pos c2]
        unfold bS
        rw [if_neg (fun q => by
          have := q.1
          rw [nI_eq (by omega) (by omega)] at this
          exact c this)]
        rfl
      · rw [if_neg c2]
  refine ⟨30, rfl, hit, ?_⟩
  refine dk_cs (nI k, le) rfl rfl (by rw [hle]; rfl) ⟨hR, by show 0 ≤ le.toInt; omega, by show le.toInt ≤ 4001000; omega⟩ (fun r4 σ4 hq4 => ?_)
  obtain ⟨f, hσ4, hfb, hr4⟩ := hq4
  have hr4 : (r4 = 1 ∧ LSb (aC σ) (uC σ) (vC σ) (gC σ) (mC σ) (bX (nC σ) (nI k) le) (xv (nC σ) f)) ∨ (r4 = 0 ∧ ¬ FEb (aC σ) (uC σ) (vC σ) (gC σ) (mC σ) (bX (nC σ) (nI k) le)) := hr4
  rw [eb, ← ek] at hr4
  rw [hσ4]
  refine ⟨fun h4 => ⟨⟨f, rfl⟩, Or.inr (Or.inr ⟨hok, htf, Or.inr ⟨?_, rfl⟩⟩)⟩, fun h4 => ?_⟩
  · have h4 : r4 = 0 := h4
    rcases hr4 with ⟨q, -⟩ | ⟨-, q⟩
    · rw [q] at h4; exact absurd h4 i32_ne10
    · rw [ek] at q ⊢; exact q
  · have h4 : ¬ r4 = 0 := h4
    have hLS : LSb (aC σ) (uC σ) (vC σ) (gC σ) (mC σ) (db (xv (nC σ) (σ 43)) (nI k).toNatClampNeg w.toInt) (xv (nC σ) f) := by
      rcases hr4 with ⟨-, q⟩ | ⟨q, -⟩
      · rw [ek] at q ⊢; exact q
      · exact absurd q h4
    have hR2 : RN (dk_up σ 37 f) := hR
    refine dk_cs () rfl rfl rfl ⟨hR2, hfb⟩ (fun r5 σ5 hq5 => ?_)
    obtain ⟨hσ5, hr5⟩ := hq5
    have hr5 : r5.toInt = pl_len (dC σ) (toI f) (nC σ) := hr5
    rw [hσ5]
    refine ⟨⟨f, rfl⟩, Or.inr (Or.inr ⟨hok, htf, Or.inl ⟨xv (nC σ) f, hLS, ?_⟩⟩)⟩
    rw [hr5]
    exact pl_len_congr (fun s hs => ⟨rfl, (if_pos hs).symm⟩)
