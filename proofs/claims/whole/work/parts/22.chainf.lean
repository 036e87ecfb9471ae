/-! firstTask, nextTask, Chain.find -/
def tC (σ : dk_S) (a b : Nat) : Prop := ∃ c, c < mC σ ∧ tB σ c = true ∧ uC σ c = a ∧ vC σ c = b
abbrev sp_firstTask : dk_M := dk_sp 1 true (fun _ : Unit => [.inr 15]) (fun _ σ => NW σ) (fun _ σ r σ' => σ' = σ ∧ ((r = -1 ∧ ∀ t, t < nC σ → toI (σ 10) t = 0 → 31 ≤ toI (σ 17) t) ∨ ∃ t, t < nC σ ∧ r = nI t ∧ toI (σ 10) t = 0 ∧ toI (σ 17) t < 31 ∧ (∀ s, s < nC σ → toI (σ 10) s = 0 → toI (σ 17) t ≤ toI (σ 17) s) ∧ ∀ s, s < t → toI (σ 10) s = 0 → toI (σ 17) t < toI (σ 17) s))
set_option maxRecDepth 100000 in
set_option maxHeartbeats 2000000 in
theorem q_firstTask : dk_pure (kX0_firstTask, fX0, [], [], [], 4, false) sp_firstTask := by
  refine dk_sp_pure (fun _ _ _ => rfl) (fun _ => rfl) ?_
  rintro OK _ σ hN hC
  have hn := hN.n30
  have loop : ∀ (d t : Nat) (a w : Int32), t + d = nC σ → ((a = -1 ∧ w = 31 ∧ ∀ s, s < t → toI (σ 10) s = 0 → 31 ≤ toI (σ 17) s) ∨ ∃ f, f < t ∧ a = nI f ∧ w = σ 17 f ∧ toI (σ 10) f = 0 ∧ toI (σ 17) f < 31 ∧ (∀ s, s < t → toI (σ 10) s = 0 → toI (σ 17) f ≤ toI (σ 17) s) ∧ ∀ s, s < f → toI (σ 10) s = 0 → toI (σ 17) f < toI (σ 17) s) → OK 7 [(0, .inr 15), (1, .inl a), (2, .inl w), (3, .inl (nI t))] [] σ := by
    intro d
    induction d with
    | zero =>
      intro t a w ht hI
      have ht : t = nC σ := by omega
      subst ht
      refine hC.go (fun q => if q = 7 then some 4 else none) 60 ?_
      refine ⟨fun _ => ⟨rfl, ?_⟩, fun h => ?_⟩
      · rcases hI with ⟨h1, -, h3⟩ | ⟨f, h1, h2, -, h4⟩
        · exact Or.inl ⟨h1, h3⟩
        · exact Or.inr ⟨f, h1, h2, h4⟩
      · exfalso
        apply h
        show σ 1 0 ≤ nI (nC σ)
        rw [hN.n]
        exact Int32.le_refl _
    | succ d ih =>
      intro t a w ht hI
      have et : (nI t).toNatClampNeg = t := nI_clamp (by omega)
      have hw : w.toInt ≤ 31 ∧ (∀ s, s < t → toI (σ 10) s = 0 → w.toInt ≤ toI (σ 17) s) := by
        rcases hI with ⟨-, h2, h3⟩ | ⟨f, -, -, h2, -, h4, h5, -⟩
        · rw [h2]; exact ⟨Int.le_refl _, h3⟩
        · rw [h2]; exact ⟨by unfold toI at h4; omega, h5⟩
      have keep : (toI (σ 10) t = 0 → w.toInt ≤ toI (σ 17) t) → OK 7 [(0, .inr 15), (1, .inl a), (2, .inl w), (3, .inl (nI t + 1))] [] σ := by
        intro hk
        rw [nI_1]
        refine ih (t + 1) a w (by omega) ?_
        rcases hI with ⟨h1, h2, h3⟩ | ⟨f, h1, h2, h3, h4, h5, h6, h7⟩
        · refine Or.inl ⟨h1, h2, fun s hs hx => ?_⟩
          by_cases e : s = t
          · subst e; have := hk hx; rw [h2] at this; exact this
          · exact h3 s (by omega) hx
        · refine Or.inr ⟨f, by omega, h2, h3, h4, h5, fun s hs hx => ?_, h7⟩
          by_cases e : s = t
          · subst e; have := hk hx; rw [h3] at this; exact this
          · exact h6 s (by omega) hx
      refine hC.go (fun q => if q = 7 then some 4 else none) 60 ?_
      refine ⟨fun h => ?_, fun _ => ⟨31, rfl, vp_in_nI (by omega) (by omega), fun h => ⟨by decide, keep (fun q => ?_)⟩, fun h => ⟨30, rfl, vp_in_nI (by omega) (by omega), fun h2 => ⟨by decide, keep (fun _ => ?_)⟩, fun h2 => ⟨by decide, 30, rfl, vp_in_nI (by omega) (by omega), by decide, by decide, ?_⟩⟩⟩⟩
      · exfalso
        have h : σ 1 0 ≤ nI t := h
        rw [hN.n] at h
        exact nI_ge (by omega) (by omega) h
      · exfalso
        have h : ¬ σ 10 (nI t).toNatClampNeg = 0 := h
        rw [et, dk_eq] at h
        exact h q
      · have h2 : w ≤ σ 17 (nI t).toNatClampNeg := h2
        rw [et, dk_le] at h2
        exact h2
      · have h : ¬ ¬ σ 10 (nI t).toNatClampNeg = 0 := h
        rw [et, dk_eq] at h
        have h := Classical.not_not.mp h
        have h2 : ¬ w ≤ σ 17 (nI t).toNatClampNeg := h2
        rw [et, dk_le] at h2
        have key := ih (t + 1) (nI t) (σ 17 t) (by omega) (Or.inr ⟨t, by omega, rfl, rfl, h, by unfold toI; omega, fun s hs hx => ?_, fun s hs hx => ?_⟩)
        · rw [← nI_1] at key
          rw [et]
          exact key
        · by_cases e : s = t
          · subst e; exact Int.le_refl _
          · have := hw.2 s (by omega) hx
            unfold toI at this ⊢
            omega
        · have := hw.2 s (by omega) hx
          unfold toI at this ⊢
          omega
  refine hC.go (fun q => if q = 7 then some 4 else none) 60 ?_
  refine ⟨by decide, by decide, by decide, ?_⟩
  exact loop (nC σ) 0 (-1) 31 (by omega) (Or.inl ⟨rfl, rfl, fun s hs => by omega⟩)
/-- a constraint that goes on along a shortest row -/
def gd (σ : dk_S) (k c : Nat) : Prop := tB σ c = true ∧ uC σ c = k ∧ toI (σ 17) (vC σ c) = toI (σ 17) k - 1
abbrev sp_nextTask : dk_M := dk_sp 2 true (fun t : Int32 => [.inr 15, .inl t]) (fun t σ => NW σ ∧ bd 20000000 (σ 10) ∧ bd3 1000 (σ 17) ∧ ∃ k, k < nC σ ∧ t = nI k)
  (fun t σ r σ' => σ' = σ ∧ ((r = -1 ∧ ∀ c, c < mC σ → ¬ gd σ t.toNatClampNeg c) ∨ ∃ b, b < nC σ ∧ r = nI b ∧ (∃ c, c < mC σ ∧ gd σ t.toNatClampNeg c ∧ vC σ c = b) ∧ ∀ c, c < mC σ → gd σ t.toNatClampNeg c → b ≤ vC σ c))
set_option maxRecDepth 100000 in
set_option maxHeartbeats 2000000 in
theorem q_nextTask : dk_pure (kX0_nextTask, fX0, [(63, sp_isTight)], [], [], 6, false) sp_nextTask := by
  refine dk_sp_pure (fun x x' e => by cases e; rfl) (fun _ => rfl) ?_
  rintro OK t σ ⟨hN, hB, hB7, k, hk, rfl⟩ hC
  have hn := hN.n30
  have hm := hN.m120
  have ek : (nI k).toNatClampNeg = k := nI_clamp (by omega)
  have hik : vp_in (nI k) 30 := vp_in_nI (by omega) (by omega)
  have hbk := hB7 k (by omega)
  have hsub : (σ 17 k - 1).toInt = toI (σ 17) k - 1 := by
    have e1 : (1 : Int32).toInt = 1 := rfl
    have := dk_sub (x := σ 17 k) (y := 1) (by omega) (by omega)
    rw [this, e1]; rfl
  have loop : ∀ (d c : Nat) (a : Int32), c + d = mC σ → ((a = -1 ∧ ∀ q, q < c → ¬ gd σ k q) ∨ ∃ b, b < nC σ ∧ a = nI b ∧ (∃ q, q < c ∧ gd σ k q ∧ vC σ q = b) ∧ ∀ q, q < c → gd σ k q → b ≤ vC σ q) → OK 4 [(0, .inr 15), (1, .inl (nI k)), (2, .inl a), (3, .inl (nI c))] [] σ := by
    intro d
    induction d with
    | zero =>
      intro c a hc hI
      have hc : c = mC σ := by omega
      subst hc
      refine hC.go (fun q => if q = 4 then some 4 else none) 80 ?_
      refine ⟨fun _ => ⟨rfl, ?_⟩, fun h => ?_⟩
      · rw [ek]
        exact hI
      · exfalso
        apply h
        show σ 1 1 ≤ nI (mC σ)
        rw [hN.m]
        exact Int32.le_refl _
    | succ d ih =>
      intro c a hc hI
      have hcm : c < mC σ := by omega
      have ec : (nI c).toNatClampNeg = c := nI_clamp (by omega)
      have hic : vp_in (nI c) 120 := vp_in_nI (by omega) (by omega)
      obtain ⟨hu1, hu2, hu3⟩ := hN.u hcm
      obtain ⟨hv1, hv2, hv3⟩ := hN.v hcm
      have keep : (gd σ k c → ∃ b, a = nI b ∧ b ≤ vC σ c ∧ b < nC σ) → OK 4 [(0, .inr 15), (1, .inl (nI k)), (2, .inl a), (3, .inl (nI c + 1))] [] σ := by
        intro hk2
        rw [nI_1]
        refine ih (c + 1) a (by omega) ?_
        rcases hI with ⟨h1, h2⟩ | ⟨b, h1, h2, ⟨q0, h3, h4, h5⟩, h6⟩
        · refine Or.inl ⟨h1, fun q hq hg => ?_⟩
          by_cases e : q = c
          · subst e
            obtain ⟨b, hb, hb2, hb3⟩ := hk2 hg
            have hn1 : ¬ (-1 : Int32) = nI b := fun e => by
              have := congrArg Int32.toInt e
              rw [nI_toInt (by omega)] at this
              have e9 : (-1 : Int32).toInt = -1 := rfl
              omega
            rw [h1] at hb
            exact hn1 hb
          · exact h2 q (by omega) hg
        · refine Or.inr ⟨b, h1, h2, ⟨q0, by omega, h4, h5⟩, fun q hq hg => ?_⟩
          by_cases e : q = c
          · subst e
            obtain ⟨b2, hb, hb2, hb3⟩ := hk2 hg
            rw [h2, nI_eq (by omega) (by omega)] at hb
            omega
          · exact h6 q (by omega) hg
      have take : gd σ k c → vC σ c < nC σ → (∀ b, a = nI b → b < nC σ → vC σ c ≤ b) → OK 4 [(0, .inr 15), (1, .inl (nI k)), (2, .inl (σ 4 (nI c).toNatClampNeg)), (3, .inl (nI c + 1))] [] σ := by
        intro hg hvn hb
        rw [nI_1, ec, hv1]
        refine ih (c + 1) (nI (vC σ c)) (by omega) (Or.inr ⟨vC σ c, hvn, rfl, ⟨c, by omega, hg, rfl⟩, fun q hq hgq => ?_⟩)
        by_cases e : q = c
        · subst e; exact Nat.le_refl _
        · rcases hI with ⟨-, h2⟩ | ⟨b, h1, h2, -, h6⟩
          · exact absurd hgq (h2 q (by omega))
          · exact Nat.le_trans (hb b h2 h1) (h6 q (by omega) hgq)
      refine hC.go (fun q => if q = 4 then some 4 else none) 80 ?_
      refine ⟨fun h => ?_, fun _ => ⟨120, rfl, hic, fun h => ⟨by decide, keep (fun q => ?_)⟩, fun h => ?_⟩⟩
      · exfalso
        have h : σ 1 1 ≤ nI c := h
        rw [hN.m] at h
        exact nI_ge hcm (by omega) h
      · exfalso
        have h : ¬ σ 3 (nI c).toNatClampNeg = nI k := h
        rw [ec, hu1] at h
        exact h (by rw [q.2.1])
      have h : ¬ ¬ σ 3 (nI c).toNatClampNeg = nI k := h
      rw [ec, hu1] at h
      have huk : uC σ c = k := by have := Classical.not_not.mp h; rwa [nI_eq (by omega) (by omega)] at this
      refine dk_cs (nI c) rfl rfl rfl ⟨hN, hB, c, hcm, rfl⟩ (fun rt σ2 hq => ?_)
      obtain ⟨hσ2, hrt⟩ := hq
      rw [hσ2]
      rw [ec] at hrt
      refine ⟨fun h2 => ⟨by decide, keep (fun q => ?_)⟩, fun h2 => ?_⟩
      · exfalso
        have h2 : rt = 0 := h2
        rw [hrt, if_pos q.1] at h2
        exact absurd h2 i32_ne10
      have h2 : ¬ rt = 0 := h2
      have ht : tB σ c = true := by
        apply Classical.byContradiction
        intro q
        rw [hrt, if_neg q] at h2
        exact h2 rfl
      have hvn := (tB_uv hN hcm ht).2
      have hiv : vp_in (σ 4 (nI c).toNatClampNeg) 30 := by rw [ec, hv1]; exact vp_in_nI (by omega) (by omega)
      refine ⟨120, rfl, hic, by decide, 30, rfl, hiv, 30, rfl, hik, fun h3 => ⟨by decide, fun _ => ⟨by decide, by decide, keep (fun q => ?_)⟩, fun q => absurd rfl q⟩, fun h3 => ⟨by decide, fun q => absurd q i32_ne10, fun _ => ?_⟩⟩
      · exfalso
        have h3 : ¬ σ 17 (σ 4 (nI c).toNatClampNeg).toNatClampNeg = σ 17 (nI k).toNatClampNeg - 1 := h3
        rw [ec, ek, dk_eq, hsub] at h3
        exact h3 q.2.2
      · have h3 : ¬ ¬ σ 17 (σ 4 (nI c).toNatClampNeg).toNatClampNeg = σ 17 (nI k).toNatClampNeg - 1 := h3
        rw [ec, ek, dk_eq, hsub] at h3
        have hg : gd σ k c := ⟨ht, huk, Classical.not_not.mp h3⟩
        refine ⟨fun h4 => ⟨by decide, by decide, take hg hvn (fun b hb hbn => ?_)⟩, fun h4 => ⟨fun h5 => ⟨by decide, by decide, keep (fun _ => ?_)⟩, fun h5 => ⟨by decide, by decide, take hg hvn (fun b hb hbn => ?_)⟩⟩⟩
        · exfalso
          have h4 : a = -1 := h4
          rw [hb] at h4
          have := congrArg Int32.toInt h4
          rw [nI_toInt (by omega)] at this
          have e9 : (-1 : Int32).toInt = -1 := rfl
          omega
        · have h5 : a ≤ σ 4 (nI c).toNatClampNeg := h5
          have h4 : ¬ a = -1 := h4
          rw [ec, hv1] at h5
          rcases hI with ⟨q1, -⟩ | ⟨b, q1, q2, -⟩
          · exact absurd q1 h4
          · rw [q2, nI_leI (by omega) (by omega)] at h5
            exact ⟨b, q2, h5, q1⟩
        · have h5 : ¬ a ≤ σ 4 (nI c).toNatClampNeg := h5
          rw [ec, hv1, hb, nI_leI (by omega) (by omega)] at h5
          omega
  refine hC.go (fun q => if q = 4 then some 4 else none) 80 ?_
  refine ⟨by decide, by decide, ?_⟩
  exact loop (mC σ) 0 (-1) (by omega) (Or.inl ⟨rfl, fun q hq => by omega⟩)
def enC (σ : dk_S) (t : Nat) : Prop := toI (σ 10) t + dC σ t = (σ 9 2).toInt
theorem DW_class {σ : dk_S} (hN : NW σ) {f : Nat → Int32} (h : bf_ls (tB σ) (vC σ) (uC σ) (fun _ => -1) (mC σ) (fun j => -w0 σ j) (fun j => -toI f j)) : DW (nC σ) (tC σ) (enC σ) 31 (toI f) := by
  obtain ⟨h1, h2, h3⟩ := h
  refine ⟨?_, ?_, ?_⟩
  · rintro a b ha hb ⟨c, hc, ht, rfl, rfl⟩
    have := h1 c hc ht
    try dsimp only at this
    omega
  · intro t ht
    have := h2 t
    try dsimp only at this
    unfold w0 at this
    rw [if_pos ht] at this
    unfold enC
    split at this
    · exact ⟨by omega, fun _ => by omega⟩
    · next q => exact ⟨by omega, fun q2 => absurd q2 q⟩
  · intro z hz1 hz2 t ht
    have := h3 (fun j => -(if j < nC σ then z j else w0 σ j)) (fun c hc hct => by
      obtain ⟨q1, q2⟩ := tB_uv hN hc hct
      have := hz1 _ _ q1 q2 ⟨c, hc, hct, rfl, rfl⟩
      try dsimp only
      rw [if_pos q1, if_pos q2]
      omega) (fun j => by
      try dsimp only
      split
      · next q =>
        have := hz2 j q
        unfold w0
        rw [if_pos q]
        unfold enC at this
        split
        · next q2 => have := this.2 q2; omega
        · omega
      · exact Int.le_refl _) t
    try dsimp only at this
    rw [if_pos ht] at this
    omega
abbrev sp_chainFind : dk_M := dk_sp 1 false (fun _ : Unit => [.inr 15]) (fun _ σ => NW σ ∧ bd 20000000 (σ 10) ∧ bd3 1000 (σ 17) ∧ σ 15 4 = 0)
  (fun _ σ _ σ' => ∃ f T k, σ' = dk_up (dk_up (dk_up σ 17 f) 16 T) 15 (upd (σ 15) 4 (nI k)) ∧ bd3 1000 f ∧ k ≤ 30 ∧ (∀ i, i < k → ∃ t, t < nC σ ∧ T i = nI t) ∧ DW (nC σ) (tC σ) (enC σ) 31 (toI f) ∧ CHN (nC σ) (toI (σ 10)) (tC σ) (toI f) 31 k (fun i => (T i).toNatClampNeg))
set_option maxRecDepth 100000 in
set_option maxHeartbeats 2000000 in
theorem q_chainFind : dk_pure (kX0_find, fX0, [(30, sp_chainMeasure), (33, sp_firstTask), (37, sp_nextTask)], [], [], 3, false) sp_chainFind := by
  refine dk_sp_pure (fun _ _ _ => rfl) (fun _ => rfl) ?_
  rintro OK _ σ ⟨hN, hB, hB7, h15⟩ hC
  have hn := hN.n30
  have hm := hN.m120
  refine hC.go (fun q => if q = 11 then some 3 else none) 60 ?_
  refine dk_cs () rfl rfl rfl ⟨hN, hB, hB7⟩ (fun _ σ1 hq => ?_)
  obtain ⟨f, hσ1, hbf, hls⟩ := hq
  rw [hσ1]
  have hDW := DW_class hN hls
  have hpos : ∀ t, t < nC σ → 1 ≤ toI f t := fun t ht => hDW.pos (by decide) ht
  have hm1 : ∀ k : Nat, k < 100 → ¬ (-1 : Int32) = nI k := fun k hk e => by
    have := congrArg Int32.toInt e
    rw [nI_toInt (by omega)] at this
    have e9 : (-1 : Int32).toInt = -1 := rfl
    omega
  have loop : ∀ (K : Nat), 0 < K → K ≤ 30 → (∀ t, t < nC σ → toI (σ 10) t = 0 → (K : Int) ≤ toI f t) → ∀ (d i : Nat) (nx : Int32) (T : Nat → Int32), i + d = K → (∀ j, j < i → ∃ t, t < nC σ ∧ T j = nI t ∧ toI f t = (K : Int) - j) →
      (0 < i → isL (fun t => t < nC σ ∧ toI (σ 10) t = 0 ∧ toI f t = K) (T 0).toNatClampNeg) → (∀ j, j + 1 < i → isL (fun t => t < nC σ ∧ tC σ (T j).toNatClampNeg t ∧ toI f t = (K : Int) - 1 - j) (T (j + 1)).toNatClampNeg) →
      (d = 0 → nx = -1) → (0 < d → ∃ t, t < nC σ ∧ nx = nI t ∧ toI f t = (K : Int) - i ∧ (i = 0 → isL (fun t => t < nC σ ∧ toI (σ 10) t = 0 ∧ toI f t = K) t) ∧ (∀ j, j + 1 = i → isL (fun t => t < nC σ ∧ tC σ (T j).toNatClampNeg t ∧ toI f t = (K : Int) - 1 - j) t)) →
      OK 11 [(0, .inr 15), (1, .inl nx), (2, .inl (nI i))] [] (dk_up (dk_up (dk_up σ 17 f) 16 T) 15 (upd (σ 15) 4 (nI i))) := by
    intro K hK0 hK hKm d
    induction d with
    | zero =>
      intro i nx T hi h1 h2 h3 h4 _
      have hi : i = K := by omega
      subst hi
      have hnx := h4 rfl
      subst hnx
      have fin : ∃ f' T' k', dk_up (dk_up (dk_up σ 17 f) 16 T) 15 (upd (σ 15) 4 (nI i)) = dk_up (dk_up (dk_up σ 17 f') 16 T') 15 (upd (σ 15) 4 (nI k')) ∧ bd3 1000 f' ∧ k' ≤ 30 ∧ (∀ i, i < k' → ∃ t, t < nC σ ∧ T' i = nI t) ∧ DW (nC σ) (tC σ) (enC σ) 31 (toI f') ∧ CHN (nC σ) (toI (σ 10)) (tC σ) (toI f') 31 k' (fun i => (T' i).toNatClampNeg) := by
        refine ⟨f, T, i, rfl, hbf, hK, fun j hj => ?_, hDW, Or.inr ⟨hK0, by omega, hKm, h2 hK0, h3⟩⟩
        obtain ⟨t, q1, q2, -⟩ := h1 j hj
        exact ⟨t, q1, q2⟩
      refine hC.go (fun q => if q = 11 then some 3 else none) 60 ?_
      exact ⟨fun _ => fin, fun _ => ⟨fun _ => fin, fun q => absurd rfl q⟩⟩
    | succ d ih =>
      intro i nx T hi h1 h2 h3 _ h5
      obtain ⟨t, ht, hnx, hW, hL0, hLi⟩ := h5 (by omega)
      subst hnx
      have ei : (nI i).toNatClampNeg = i := nI_clamp (by omega)
      have et : (nI t).toNatClampNeg = t := nI_clamp (by omega)
      refine hC.go (fun q => if q = 11 then some 3 else none) 60 ?_
      refine ⟨fun h => ?_, fun _ => ⟨fun h => absurd (show nI t = -1 from h).symm (hm1 t (by omega)), fun _ => ⟨30, rfl, vp_in_nI (by omega) (by omega), ?_⟩⟩⟩
      · exfalso
        have h : nI 30 ≤ nI i := h
        rw [nI_leI (by omega) (by omega)] at h
        omega
      obtain ⟨T', hT'⟩ : ∃ T', T' = upd T i (nI t) := ⟨_, rfl⟩
      have hS : dk_up (dk_up (dk_up (dk_up (dk_up σ 17 f) 16 T) 15 (upd (σ 15) 4 (nI i))) 16 (upd T (nI i).toNatClampNeg (nI t))) 15 (upd (upd (σ 15) 4 (nI i)) 4 (nI i + 1)) = dk_up (dk_up (dk_up σ 17 f) 16 T') 15 (upd (σ 15) 4 (nI (i + 1))) := by
        rw [dk_up_comm (show ¬ 15 = 16 by decide), dk_up_up, dk_up_up, ei, hT', nI_1]
        congr 1
        funext j
        unfold upd
        split <;> rfl
      show dk_call sp_nextTask [.inl (nI t), .inr 15] (dk_up (dk_up (dk_up (dk_up (dk_up σ 17 f) 16 T) 15 (upd (σ 15) 4 (nI i))) 16 (upd T (nI i).toNatClampNeg (nI t))) 15 (upd (upd (σ 15) 4 (nI i)) 4 (nI i + 1))) _
      rw [hS]
      refine dk_cs (nI t) rfl rfl rfl ⟨((hN.up (by decide)).up (by decide)).up (by decide), hB, hbf, t, ht, rfl⟩ (fun rn σ2 hq => ?_)
      obtain ⟨hσ2, hrn⟩ := hq
      rw [hσ2]
      have hrn : (rn = -1 ∧ ∀ c, c < mC σ → ¬ (tB σ c = true ∧ uC σ c = (nI t).toNatClampNeg ∧ toI f (vC σ c) = toI f (nI t).toNatClampNeg - 1)) ∨ ∃ b, b < nC σ ∧ rn = nI b ∧ (∃ c, c < mC σ ∧ (tB σ c = true ∧ uC σ c = (nI t).toNatClampNeg ∧ toI f (vC σ c) = toI f (nI t).toNatClampNeg - 1) ∧ vC σ c = b) ∧ ∀ c, c < mC σ → (tB σ c = true ∧ uC σ c = (nI t).toNatClampNeg ∧ toI f (vC σ c) = toI f (nI t).toNatClampNeg - 1) → b ≤ vC σ c := hrn
      rw [et] at hrn
      have hTi : T' i = nI t := by rw [hT']; simp [upd]
      have hTj : ∀ j, j < i → T' j = T j := fun j hj => by rw [hT']; simp [upd, show ¬ j = i by omega]
      refine ⟨by decide, by decide, ?_⟩
      have key := ih (i + 1) rn T' (by omega) (fun j hj => ?_) (fun _ => ?_) (fun j hj => ?_) (fun hd => ?_) (fun hd => ?_)
      · rw [← nI_1] at key ⊢
        exact key
      · by_cases e : j = i
        · subst e; exact ⟨t, ht, hTi, hW⟩
        · rw [hTj j (by omega)]; exact h1 j (by omega)
      · by_cases e : i = 0
        · subst e; rw [hTi, et]; exact hL0 rfl
        · rw [hTj 0 (by omega)]; exact h2 (by omega)
      · by_cases e : j + 1 = i
        · subst e
          rw [hTi, et, hTj j (by omega)]
          exact hLi j rfl
        · rw [hTj j (by omega), hTj (j + 1) (by omega)]
          exact h3 j (by omega)
      · rcases hrn with ⟨q, -⟩ | ⟨b, hb1, -, ⟨c, hc1, ⟨hc2, hc3, hc4⟩, hc5⟩, -⟩
        · exact q
        · exfalso
          rw [hc5] at hc4
          have := hpos b hb1
          omega
      · rcases hrn with ⟨-, q⟩ | ⟨b, hb1, hb2, ⟨c, hc1, ⟨hc2, hc3, hc4⟩, hc5⟩, hb3⟩
        · exfalso
          obtain ⟨b, hb1, ⟨c, hc1, hc2, hc3, hc4⟩, hb3⟩ := hDW.succ ht (by omega) (by omega)
          exact q c hc1 ⟨hc2, hc3, by rw [hc4]; exact hb3⟩
        · rw [hc5] at hc4
          refine ⟨b, hb1, hb2, by omega, fun e => by omega, fun j hj => ?_⟩
          have hj : j = i := by omega
          subst hj
          rw [hTi, et]
          refine ⟨⟨hb1, ⟨c, hc1, hc2, hc3, hc5⟩, by omega⟩, ?_⟩
          rintro s hs ⟨hs1, ⟨c2, hd1, hd2, hd3, hd4⟩, hs3⟩
          have := hb3 c2 hd1 ⟨hd2, hd3, by rw [hd4]; omega⟩
          omega
  refine dk_cs () rfl rfl rfl (hN.up (by decide)) (fun r1 σ2 hq => ?_)
  obtain ⟨hσ2, hr1⟩ := hq
  rw [hσ2]
  refine ⟨by decide, by decide, ?_⟩
  have hid : dk_up (dk_up (dk_up σ 17 f) 16 (σ 16)) 15 (upd (σ 15) 4 (nI 0)) = dk_up σ 17 f := by
    have e1 : upd (σ 15) 4 (nI 0) = σ 15 := by
      funext j
      unfold upd
      split
      · next e => rw [e, h15]; rfl
      · rfl
    rw [e1]
    funext q
    unfold dk_up
    by_cases a1 : q = 15
    · subst a1; rfl
    · rw [if_neg a1]
      by_cases a2 : q = 16
      · subst a2; rfl
      · rw [if_neg a2]
  have hr1 : (r1 = -1 ∧ ∀ t, t < nC σ → toI (σ 10) t = 0 → 31 ≤ toI f t) ∨ ∃ t, t < nC σ ∧ r1 = nI t ∧ toI (σ 10) t = 0 ∧ toI f t < 31 ∧ (∀ s, s < nC σ → toI (σ 10) s = 0 → toI f t ≤ toI f s) ∧ ∀ s, s < t → toI (σ 10) s = 0 → toI f t < toI f s := hr1
  rcases hr1 with ⟨hr1, hno⟩ | ⟨t, ht, hr1, hx, hW, hall, hfirst⟩
  · subst hr1
    refine hC.go (fun _ => none) 60 ?_
    refine ⟨fun h => absurd (show nI 30 ≤ nI 0 from h) (by decide), fun _ => ⟨fun _ => ⟨f, σ 16, 0, hid.symm, hbf, by omega, fun i hi => by omega, hDW, Or.inl ⟨rfl, hno⟩⟩, fun q => absurd rfl q⟩⟩
  · obtain ⟨K, hK⟩ : ∃ K : Nat, toI f t = K := ⟨(toI f t).toNat, by have := hpos t ht; omega⟩
    have h0 := hpos t ht
    have key := loop K (by omega) (by omega) (fun s hs hsx => by rw [← hK]; exact hall s hs hsx) K 0 r1 (σ 16) (by omega) (fun j hj => by omega) (fun q => by omega) (fun j hj => by omega) (fun q => by omega) (fun _ => ⟨t, ht, hr1, by omega, fun _ => ⟨⟨ht, hx, hK⟩, ?_⟩, fun j hj => by omega⟩)
    · rw [hid] at key
      exact key
    · rintro s hs ⟨q1, q2, q3⟩
      have := hfirst s hs q2
      omega
