/-! solve of both -/
theorem net_eq {σ σ' : dk_S} (h : ∀ q, 1 ≤ q → q ≤ 6 → σ' q = σ q) : nC σ' = nC σ ∧ mC σ' = mC σ ∧ aC σ' = aC σ ∧ uC σ' = uC σ ∧ vC σ' = vC σ ∧ gC σ' = gC σ ∧ dC σ' = dC σ := by
  unfold nC mC aC uC vC gC dC
  rw [h 1 (by omega) (by omega), h 2 (by omega) (by omega), h 3 (by omega) (by omega), h 4 (by omega) (by omega), h 5 (by omega) (by omega), h 6 (by omega) (by omega)]
  exact ⟨rfl, rfl, rfl, rfl, rfl, rfl, rfl⟩
theorem NW.of {σ σ' : dk_S} (hN : NW σ) (h : ∀ q, 1 ≤ q → q ≤ 6 → σ' q = σ q) : NW σ' := by
  unfold NW
  rw [h 1 (by omega) (by omega), h 2 (by omega) (by omega), h 3 (by omega) (by omega), h 4 (by omega) (by omega), h 5 (by omega) (by omega), h 6 (by omega) (by omega)]
  exact hN
theorem RN.of {σ σ' : dk_S} (hR : RN σ) (h : ∀ q, 1 ≤ q → q ≤ 6 → σ' q = σ q) (e0 : σ' 30 0 = σ 30 0) (e1 : σ' 30 1 = σ 30 1) (e' : ∀ q, 31 ≤ q → q ≤ 36 → σ' q = σ q) : RN σ' := by
  obtain ⟨n1, n2, n3, n4, n5, n6, n7⟩ := net_eq h
  refine ⟨hR.1.of h, by rw [e0, n1]; exact hR.2.1, by rw [e1, n2]; exact hR.2.2.1, ?_, ?_, by rw [n2, n4, n5]; exact hR.2.2.2.2.2⟩
  · rw [n1, e' 31 (by omega) (by omega), h 2 (by omega) (by omega)]; exact hR.2.2.2.1
  · rw [n2, n4, n5, e' 32 (by omega) (by omega), e' 33 (by omega) (by omega), e' 34 (by omega) (by omega), e' 35 (by omega) (by omega), h 5 (by omega) (by omega), h 6 (by omega) (by omega)]; exact hR.2.2.2.2.1
theorem edge_eq {σ σ' : dk_S} (h : ∀ q, 1 ≤ q → q ≤ 6 → σ' q = σ q) : CRCC σ' = CRCC σ ∧ eN σ' = eN σ := by
  obtain ⟨n1, n2, n3, n4, n5, n6, n7⟩ := net_eq h
  have a1 : nE σ' = nE σ := by unfold nE; rw [n1, n2]
  have a2 : eA σ' = eA σ := by funext e; unfold eA; rw [n2, n3]
  have a3 : eF σ' = eF σ := by funext e; unfold eF; rw [n2, n4]
  have a4 : eT σ' = eT σ := by funext e; unfold eT; rw [n2, n5]
  have a5 : eG σ' = eG σ := by funext e; unfold eG; rw [n2, n6]
  have a6 : eN σ' = eN σ := by funext e; unfold eN; rw [n2]
  exact ⟨by unfold CRCC; rw [a1, a2, a3, a4, a5], a6⟩
theorem isL.iff {P Q : Nat → Prop} (h : ∀ t, P t ↔ Q t) {t : Nat} (hp : isL P t) : isL Q t := ⟨(h t).mp hp.1, fun s hs q => hp.2 s hs ((h s).mpr q)⟩
theorem CRC.unique {ne : Nat} {A : Nat → Bool} {F T : Nat → Nat} {G : Nat → Int} {k k' : Nat} {ε ε' : Nat → Nat} (h : CRC ne A F T G k ε) (h' : CRC ne A F T G k' ε') : k = k' ∧ ∀ i, i < k → ε i = ε' i := by
  obtain ⟨⟨a1, ⟨e, a2⟩, a3⟩, a4, a5⟩ := h
  obtain ⟨⟨b1, ⟨e', b2⟩, b3⟩, b4, b5⟩ := h'
  have hk : k = k' := by
    rcases Nat.lt_trichotomy k k' with q | q | q
    · exact absurd a2 (b3 k a1 q e)
    · exact q
    · exact absurd b2 (a3 k' b1 q e')
  subst hk
  refine ⟨rfl, ?_⟩
  have h0 : ε 0 = ε' 0 := a4.unique b4
  rw [← h0] at b5
  intro i
  induction i using Nat.strongRecOn with
  | _ i ih =>
    intro hi
    have ih' : ∀ j, j < i → ε j = ε' j := fun j hj => ih j hj (by omega)
    have q1 := a5 i hi
    have q2 := b5 i hi
    rw [← psn_congr ih', ← smn_congr ih'] at q2
    exact q1.unique q2
theorem DW.congr {n : Nat} {tt tt' : Nat → Nat → Prop} {en en' : Nat → Prop} {M : Int} {W : Nat → Int} (h1 : ∀ a b, a < n → b < n → (tt a b ↔ tt' a b)) (h2 : ∀ t, t < n → (en t ↔ en' t)) (h : DW n tt en M W) : DW n tt' en' M W :=
  ⟨fun a b ha hb q => h.1 a b ha hb ((h1 a b ha hb).mpr q), fun t ht => ⟨(h.2.1 t ht).1, fun q => (h.2.1 t ht).2 ((h2 t ht).mpr q)⟩, fun z z1 z2 => h.2.2 z (fun a b ha hb q => z1 a b ha hb ((h1 a b ha hb).mp q)) (fun t ht => ⟨(z2 t ht).1, fun q => (z2 t ht).2 ((h2 t ht).mp q)⟩)⟩
theorem CHN.congr {n : Nat} {x x' : Nat → Int} {tt tt' : Nat → Nat → Prop} {W : Nat → Int} {M : Int} {k : Nat} {T : Nat → Nat} (h0 : ∀ t, t < n → x t = x' t) (h1 : ∀ a b, a < n → b < n → (tt a b ↔ tt' a b)) (hT : ∀ i, i < k → T i < n) (h : CHN n x tt W M k T) : CHN n x' tt' W M k T := by
  rcases h with ⟨a1, a2⟩ | ⟨a1, a2, a3, a4, a5⟩
  · exact Or.inl ⟨a1, fun t ht q => a2 t ht (by rw [h0 t ht]; exact q)⟩
  · refine Or.inr ⟨a1, a2, fun t ht q => a3 t ht (by rw [h0 t ht]; exact q), a4.iff (fun t => ?_), fun i hi => (a5 i hi).iff (fun t => ?_)⟩
    · exact ⟨fun q => ⟨q.1, by rw [← h0 t q.1]; exact q.2.1, q.2.2⟩, fun q => ⟨q.1, by rw [h0 t q.1]; exact q.2.1, q.2.2⟩⟩
    · exact ⟨fun q => ⟨q.1, (h1 _ _ (hT i (by omega)) q.1).mp q.2.1, q.2.2⟩, fun q => ⟨q.1, (h1 _ _ (hT i (by omega)) q.1).mpr q.2.1, q.2.2⟩⟩
set_option maxRecDepth 10000 in
set_option maxHeartbeats 2000000 in
theorem t_solve : two sp_xsolve sp_msolve [.inr 0] [.inr 30] := by
  refine two_sp (A := fun _ : Unit => [.inr 0]) (A' := fun _ : Unit => [.inr 30]) () (fun σ h => ⟨⟨h.1.1.1, h.2.2.2.1.2.1, h.2.2.2.1.2.2.2⟩, fun r σ' hq => ?_⟩)
  obtain ⟨hfr, s8, s25, sb10, sb11, sb17, s7, hS⟩ := hq
  have k1 : ∀ q, ((1 ≤ q ∧ q ≤ 8) ∨ (12 ≤ q ∧ q ≤ 14) ∨ (26 ≤ q ∧ q ≤ 48)) → σ' q = σ q := fun q hq => hfr q (by omega) (by omega) (by omega) (by omega) (by omega)
  have kn : ∀ q, 1 ≤ q → q ≤ 6 → σ' q = σ q := fun q h1 h2 => k1 q (by omega)
  have k30 : σ' 30 = σ 30 := k1 30 (by omega)
  have hR' : RN σ' := h.1.1.of kn (by rw [k30]) (by rw [k30]) (fun q h1 h2 => k1 q (by omega))
  refine ⟨hR', fun r' σ'' hq' => ?_⟩
  obtain ⟨⟨k2, k3⟩, t26, t20, t19, hM⟩ := hq'
  have k4 : ∀ q, (q ≤ 29 ∨ (31 ≤ q ∧ q ≤ 36) ∨ 45 ≤ q) → σ'' q = σ' q := fun q hq => k2 q (by omega) (by omega)
  have kn' : ∀ q, 1 ≤ q → q ≤ 6 → σ'' q = σ' q := fun q h1 h2 => k4 q (by omega)
  have kn2 : ∀ q, 1 ≤ q → q ≤ 6 → σ'' q = σ q := fun q h1 h2 => (kn' q h1 h2).trans (kn q h1 h2)
  have hR'' : RN σ'' := hR'.of kn' (k3 0 (by omega)) (k3 1 (by omega)) (fun q h1 h2 => k4 q (by omega))
  obtain ⟨n1, n2, n3, n4, n5, n6, n7⟩ := net_eq kn
  obtain ⟨m1, m2, m3, m4, m5, m6, m7⟩ := net_eq kn2
  have hn30 := h.1.1.1.n30
  have hm120 := h.1.1.1.m120
  have hr : r' = r := by
    rcases hS with ⟨a1, a2⟩ | ⟨a1, a2⟩
    · rcases hM with ⟨b1, b2⟩ | ⟨b1, b2⟩
      · rw [a1, b1]
      · exfalso
        have := b2.1
        rw [n2, n3, n4, n5, n6] at this
        exact this a2.2.1.FE
    · rcases hM with ⟨b1, b2⟩ | ⟨b1, b2⟩
      · exfalso
        have := b2.1
        rw [n2, n3, n4, n5, n6] at this
        exact a2.1 this.FE
      · rw [a1, b1]
  refine ⟨hr, ?_⟩
  have e0 : σ'' 0 = σ' 0 := k4 0 (by omega)
  have e9 : σ'' 9 = σ' 9 := k4 9 (by omega)
  have e10 : σ'' 10 = σ' 10 := k4 10 (by omega)
  have e11 : σ'' 11 = σ' 11 := k4 11 (by omega)
  have e15 : σ'' 15 = σ' 15 := k4 15 (by omega)
  have e16 : σ'' 16 = σ' 16 := k4 16 (by omega)
  have e17 : σ'' 17 = σ' 17 := k4 17 (by omega)
  have e18 : σ'' 18 = σ' 18 := k4 18 (by omega)
  have e19 : σ'' 19 = σ' 19 := k4 19 (by omega)
  have e25 : σ'' 25 = upd (σ 25) 1 0 := (k4 25 (by omega)).trans s25
  have e26 : σ'' 26 = σ 26 := (k4 26 (by omega)).trans (k1 26 (by omega))
  have e14 : σ'' 14 = σ 14 := (k4 14 (by omega)).trans (k1 14 (by omega))
  have e7 : σ'' 7 = σ 7 := (k4 7 (by omega)).trans (k1 7 (by omega))
  have e8 : σ'' 8 = σ 8 := (k4 8 (by omega)).trans (k1 8 (by omega))
  have e36 : σ'' 36 = σ 36 := (k4 36 (by omega)).trans (k1 36 (by omega))
  have e1 : σ'' 1 = σ 1 := kn2 1 (by omega) (by omega)
  have e6 : σ'' 6 = σ 6 := kn2 6 (by omega) (by omega)
  have f : ∀ j, ¬ (j = 15 ∨ j = 17 ∨ j = 19 ∨ j = 20 ∨ j = 23 ∨ j = 24 ∨ j = 26) → σ'' 30 j = σ 30 j := fun j hj => (k3 j hj).trans (by rw [k30])
  obtain ⟨⟨-, h3, h6⟩, ⟨hCW, hsb, hw, hs, h36, h8⟩, -, ⟨-, -, hb14, -⟩, h25, -, hKM⟩ := h
  have hn0 : σ 1 0 = nI (nC σ) := by rw [← e1, ← m1]; exact hR''.1.n
  have hn1 : σ 30 0 = nI (nC σ) := by rw [← f 0 (by omega), ← m1]; exact hR''.2.1
  have zero : σ'' 0 7 = 0 → r = 0 := fun q => by rw [← s7, ← e0]; exact q
  -- what a plan found makes equal
  have both : r = 0 → SOL0 σ σ' ∧ MSOL0 σ' σ'' := fun q => by
    rcases hS with ⟨a1, a2⟩ | ⟨a1, a2⟩
    · rcases hM with ⟨b1, b2⟩ | ⟨b1, b2⟩
      · exact ⟨a2, b2⟩
      · rw [hr, q] at b1; exact absurd b1.symm i32_ne10
    · rw [q] at a1; exact absurd a1.symm i32_ne10
  have both1 : ¬ r = 0 → SOL1 σ σ' ∧ MSOL1 σ' σ'' := fun q => by
    rcases hS with ⟨a1, a2⟩ | ⟨a1, a2⟩
    · exact absurd a1 q
    · rcases hM with ⟨b1, b2⟩ | ⟨b1, b2⟩
      · rw [hr] at b1; exact absurd b1 q
      · exact ⟨a2, b2⟩
  have same : r = 0 → (∀ t, t < nC σ → σ'' 37 t = σ' 10 t ∧ σ'' 38 t = σ' 11 t) ∧ σ'' 30 23 = σ' 9 2 := fun q => by
    obtain ⟨⟨a1, a2, a3, a4, a5, a6⟩, b1, b2, b3, b4, b5, b6, b7⟩ := both q
    rw [n1, n2, n3, n4, n5, n6] at b1
    rw [n1, n2, n3, n4, n5, n6, n7] at b4
    rw [n1, n7] at b2
    have ex := b1.unique a2
    have ex' : ∀ t, t < nC σ → toI (σ'' 37) t = toI (σ' 10) t := fun t ht => by
      have := ex t (by omega)
      unfold xv at this
      rw [if_pos ht] at this
      exact this
    have el : (σ'' 30 23).toInt = (σ' 9 2).toInt := by
      rw [b2, a3]
      exact pl_len_congr (fun t ht => ⟨rfl, ex' t ht⟩)
    rw [el] at b4
    have ey := b4.unique a4
    refine ⟨fun t ht => ⟨dk_eq.mpr (ex' t ht), dk_eq.mpr ?_⟩, dk_eq.mpr el⟩
    have := ey t (Or.inl ht)
    unfold xv at this
    rw [if_pos ht] at this
    exact this
  refine ⟨⟨hR'', by rw [f 3 (by omega), e1]; exact h3, by rw [m2, e6]; exact h6⟩, ⟨?_, by rw [e8]; exact hsb, by rw [f 2 (by omega), e7]; exact hw, by rw [f 10 (by omega), e7]; exact hs, by rw [m1, e36, e8]; exact h36, by rw [m1, e8]; exact h8⟩, ⟨?_, ?_, ?_, ?_, ?_, ?_⟩, ⟨by rw [e10]; exact sb10, by rw [e11]; exact sb11, by rw [e14]; exact hb14, by rw [e17]; exact sb17⟩, ?_, ?_, ?_⟩
  · unfold CW; rw [e7]; exact hCW
  · rw [t19, hr, e0]; exact s7.symm
  · right; rw [e0]; exact ⟨s8, t20⟩
  · intro q
    obtain ⟨⟨a1, a2, a3, -⟩, -⟩ := both (zero q.2)
    rw [e9, e1, m1, m2, m3, m4, m5, m6, m7, e10]
    exact ⟨a1, a2, a3⟩
  · intro q
    obtain ⟨⟨a1, -⟩, -, -, b3, -, b5, -⟩ := both (zero q)
    obtain ⟨s1, s2⟩ := same (zero q)
    rw [m1, e9, e10, e11]
    refine ⟨nC σ, Nat.le_refl _, by rw [a1]; exact hn0, by rw [b3, k30]; exact hn1, s2, fun t ht => ?_⟩
    have := b5 t (by rw [n1]; exact ht)
    rw [this.1, this.2]
    exact s1 t ht
  · by_cases q : r = 0
    · obtain ⟨⟨a1, a2, a3, a4, a5, k, fW, hk, a6, a7, a8, a9⟩, b1, b2, b3, b4, b5, b6, W, k', b7, c1, c2, c3, c4⟩ := both q
      obtain ⟨s1, s2⟩ := same q
      have ex : ∀ t, t < nC σ → toI (σ'' 37) t = toI (σ' 10) t := fun t ht => by unfold toI; rw [(s1 t ht).1]
      have ett : ∀ a b, a < nC σ → b < nC σ → (tS σ'' a b ↔ tC σ' a b) := fun a b ha hb => by
        unfold tS tC tB
        rw [m2, m3, m4, m5, m6, n2, n3, n4, n5, n6, ex a ha, ex b hb]
        simp only [decide_eq_true_eq]
        constructor
        · rintro ⟨c, q1, q2, q3, q4, q5⟩
          exact ⟨c, q1, ⟨q2, by omega, by omega, by rw [q3, q4]; exact q5⟩, q3, q4⟩
        · rintro ⟨c, q1, ⟨q2, -, -, q5⟩, q3, q4⟩
          exact ⟨c, q1, q2, q3, q4, by rw [q3, q4] at q5; exact q5⟩
      have een : ∀ t, t < nC σ → (enS σ'' (σ'' 30 23) t ↔ enC σ' t) := fun t ht => by
        unfold enS enC
        rw [m7, n7, s2, ex t ht]
      rw [m1] at c2 c3 c4
      have hT : ∀ i, i < k' → (σ'' 41 i).toNatClampNeg < nC σ := fun i hi => by
        obtain ⟨t, ht, e⟩ := c2 i hi
        rw [e, nI_clamp (by omega)]
        exact ht
      have u := CHN.unique (by omega) (by omega) (by omega) a8 (c3.congr ett een) a9 (c4.congr ex ett hT)
      refine ⟨k, hk, by rw [e15]; exact a6, by rw [b7, ← u.1], fun i hi => ?_⟩
      have := u.2 i hi
      obtain ⟨t, ht, e⟩ := a7 i hi
      obtain ⟨t', ht', e'⟩ := c2 i (by rw [← u.1]; exact hi)
      have this : (σ' 16 i).toNatClampNeg = (σ'' 41 i).toNatClampNeg := this
      rw [e, e', nI_clamp (by omega), nI_clamp (by omega)] at this
      rw [e16, e, e', this]
    · obtain ⟨⟨a1, a2, a3⟩, b1, b2, b3⟩ := both1 q
      exact ⟨0, by omega, by rw [e15]; exact a2, b2, fun i hi => by omega⟩
  · by_cases q : r = 0
    · obtain ⟨⟨a1, a2, a3, a4, a5, -⟩, b1, b2, b3, b4, b5, b6, -⟩ := both q
      exact ⟨0, by omega, by rw [e18]; exact a5, b6, fun i hi => by omega⟩
    · obtain ⟨⟨a1, a2, a3⟩, b1, b2, k', ε', b3, b4, b5, b6⟩ := both1 q
      rcases a3 with ⟨a3, -⟩ | ⟨k, ε, hk, a4, a5, a6⟩
      · exact absurd (noc_FE (hR''.1.of (fun q h1 h2 => (kn2 q h1 h2).symm)) a3) a1
      obtain ⟨g1, g2⟩ := edge_eq kn
      rw [g1] at b4
      rw [g2] at b6
      obtain ⟨u1, u2⟩ := CRC.unique a4 b4
      refine ⟨k, hk, by rw [e18]; exact a5, by rw [u1]; exact b5, fun i hi => ?_⟩
      rw [e19, a6 i hi, b6 i (by omega), u2 i hi]
      refine ⟨rfl, eN σ (ε' i), rfl, ?_⟩
      have hlt : ε' i < nE σ := (b4.2.2 i (by omega)).1.1
      rw [m2]
      unfold eN
      unfold nE at hlt
      by_cases c : ε' i < mC σ
      · rw [if_pos c]; exact Or.inl c
      · rw [if_neg c]; omega
  · rw [f 25 (by omega), e25]; exact h25
  · left; rw [e25]; exact ⟨rfl, t26⟩
  · intro q
    have q : ¬ σ 25 0 = 0 := by rw [e25] at q; exact q
    obtain ⟨⟨a1, a2, a3, a4⟩, a5, a6, a7, a8⟩ := hKM q
    rw [f 27 (by omega), f 28 (by omega), f 29 (by omega), f 30 (by omega), e25, e26, e8, m1]
    exact ⟨⟨a1, a2, a3, a4⟩, a5, a6, a7, a8⟩
