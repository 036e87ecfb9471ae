/-! the reference's starts -/
def og (k : Nat) : Int32 := if k = 30 then -1 else nI k
/-- the reference was told the same network -/
def RN (σ : dk_S) : Prop := NW σ ∧ σ 30 0 = nI (nC σ) ∧ σ 30 1 = nI (mC σ) ∧ (∀ t, t < nC σ → σ 31 t = σ 2 t) ∧ (∀ c, c < mC σ → σ 32 c = og (uC σ c) ∧ σ 33 c = og (vC σ c) ∧ σ 34 c = σ 5 c ∧ σ 35 c = σ 6 c) ∧ ∀ c, c < mC σ → ¬ (uC σ c = 30 ∧ vC σ c = 30)
theorem og_lt {k : Nat} (hk : k < 31) : (0 ≤ og k ↔ ¬ k = 30) := by
  unfold og
  by_cases e : k = 30
  · rw [if_pos e]
    exact ⟨fun h => absurd h (by decide), fun h => absurd e h⟩
  · rw [if_neg e]
    exact ⟨fun _ => e, fun _ => (nI_leI (a := 0) (b := k) (by omega) (by omega)).mpr (by omega)⟩
theorem og_ne {k : Nat} (h : ¬ k = 30) : og k = nI k := if_neg h
def xv (n : Nat) (f : Nat → Int32) : Nat → Int := fun j => if j < n then (f j).toInt else 0
/-- constraints that don't end at the beginning -/
def aS (σ : dk_S) : Nat → Bool := fun c => decide (aC σ c = true ∧ ¬ vC σ c = 30)
/-- the starts from which soonest goes up -/
def bS (t l : Int32) (j : Nat) : Int32 := if nI j = t ∧ 0 < l then l else 0
def bX (n : Nat) (t l : Int32) : Nat → Int := xv n (bS t l)
theorem bf_cut {σ : dk_S} {x z : Nat → Int} (hN : NW σ) (hz : bf_sol (aC σ) (uC σ) (vC σ) (gC σ) (mC σ) z) : bf_sol (aS σ) (uC σ) (vC σ) (gC σ) (mC σ) (fun j => if j < 31 then z j else x j) := by
  intro c hc ha
  have ha := of_decide_eq_true ha
  have h1 := (hN.u hc).2.2
  have h2 := (hN.v hc).2.2
  try dsimp only
  rw [if_pos h1, if_pos h2]
  exact hz c hc ha.1
theorem iter_stays {a : Nat → Bool} {u v : Nat → Nat} {g : Nat → Int} {m : Nat} {x : Nat → Int} {k : Nat} (h : bf_sol a u v g m (bf_iter a u v g m k x)) : ∀ j, bf_iter a u v g m (k + j) x = bf_iter a u v g m k x := by
  intro j
  induction j with
  | zero => rfl
  | succ j ih =>
    show bf_pass a u v g m (bf_iter a u v g m (k + j) x) = _
    rw [ih]
    exact bf_sol_stable h
abbrev sp_soonest : dk_M := dk_sp 3 true (fun x : Int32 × Int32 => [.inr 30, .inl x.1, .inl x.2]) (fun x σ => RN σ ∧ 0 ≤ x.2.toInt ∧ x.2.toInt ≤ 4001000)
  (fun x σ r σ' => ∃ f, σ' = dk_up σ 37 f ∧ (∀ t, t < nC σ → 0 ≤ (f t).toInt ∧ (f t).toInt ≤ 9000000) ∧ ((r = 1 ∧ LSb (aC σ) (uC σ) (vC σ) (gC σ) (mC σ) (bX (nC σ) x.1 x.2) (xv (nC σ) f)) ∨ (r = 0 ∧ ¬ FEb (aC σ) (uC σ) (vC σ) (gC σ) (mC σ) (bX (nC σ) x.1 x.2))))
set_option maxRecDepth 100000 in
set_option maxHeartbeats 8000000 in
theorem q_soonest : dk_pure (kX7_soonest, fX7, [], [], nX7, 7, true) sp_soonest := by
  refine dk_sp_pure (fun x x' e => by obtain ⟨a, b⟩ := x; obtain ⟨a', b'⟩ := x'; cases e; rfl) (fun _ => rfl) ?_
  rintro OK ⟨tk, le⟩ σ ⟨⟨hN, hn, hm, hdur, hcon, hoo⟩, hl1, hl2⟩ hC
  have hl1 : 0 ≤ le.toInt := hl1
  have hl2 : le.toInt ≤ 4001000 := hl2
  have hn30 := hN.n30
  have hm120 := hN.m120
  obtain ⟨x0, hx0⟩ : ∃ x0, x0 = bX (nC σ) tk le := ⟨_, rfl⟩
  have hx0b : ∀ j, 0 ≤ x0 j ∧ x0 j ≤ 4001000 := fun j => by
    rw [hx0]
    unfold bX xv bS
    split
    · split
      · omega
      · rw [i0]; omega
    · omega
  have hx0n : ∀ j, ¬ j < nC σ → x0 j = 0 := fun j hj => by
    rw [hx0]; unfold bX xv; rw [if_neg hj]
  obtain ⟨it, hit⟩ : ∃ it : Nat → Nat → Int, it = fun k => bf_iter (aS σ) (uC σ) (vC σ) (gC σ) (mC σ) k x0 := ⟨_, rfl⟩
  have it0 : it 0 = x0 := by rw [hit]; rfl
  have its : ∀ k, it (k + 1) = bf_pass (aS σ) (uC σ) (vC σ) (gC σ) (mC σ) (it k) := fun k => by rw [hit]; rfl
  have hstep_n : ∀ (x : Nat → Int), (∀ j, ¬ j < nC σ → x j = 0) → ∀ c, c ≤ mC σ → ∀ j, ¬ j < nC σ → bf_pass (aS σ) (uC σ) (vC σ) (gC σ) c x j = 0 := by
    intro x hx c
    induction c with
    | zero => intro _ j hj; exact hx j hj
    | succ c ih =>
      intro hc j hj
      have ih := ih (by omega)
      show bf_one (aS σ) (uC σ) (vC σ) (gC σ) (bf_pass (aS σ) (uC σ) (vC σ) (gC σ) c x) c j = 0
      unfold bf_one
      split
      · next q =>
        have q1 := (of_decide_eq_true q.1).2
        have hv := (hN.v (show c < mC σ by omega)).2.1
        try dsimp only
        rw [if_neg (by omega)]
        exact ih j hj
      · exact ih j hj
  have itn : ∀ k, ∀ j, ¬ j < nC σ → it k j = 0 := by
    intro k
    induction k with
    | zero => rw [it0]; exact hx0n
    | succ k ih => rw [its]; exact hstep_n (it k) ih (mC σ) (Nat.le_refl _)
  have hub : ∀ c, c < mC σ → uC σ c < 31 := fun c hc => (hN.u hc).2.2
  have hgb : ∀ c, c < mC σ → -1000 ≤ gC σ c ∧ gC σ c ≤ 1000 := fun c hc => hN.g hc
  have itb : ∀ k, ∀ j, j < 31 → 0 ≤ it k j ∧ it k j ≤ 4001000 + 120000 * k := by
    intro k
    induction k with
    | zero => intro j _; rw [it0]; have := hx0b j; omega
    | succ k ih =>
      intro j hj
      rw [its]
      have h1 := bf_pass_ge (a := aS σ) (u := uC σ) (v := vC σ) (g := gC σ) (it k) (mC σ) j
      have h2 := bf_pass_bg (a := aS σ) (v := vC σ) hub hgb (B := 4001000 + 120000 * k) (x := it k) (fun j hj => by have := ih j hj; omega) (mC σ) (Nat.le_refl _) j hj
      have h3 := ih j hj
      constructor
      · omega
      · have : (1000 : Int) * (mC σ : Int) ≤ 120000 := by omega
        have e : (4001000 + 120000 * ((k + 1 : Nat) : Int)) = 4001000 + 120000 * (k : Int) + 120000 := by omega
        rw [e]
        omega
  -- what the end says
  have post : ∀ (r : Int32) (f : Nat → Int32) (K : Nat), K ≤ 33 → xv (nC σ) f = it K → ((r = 1 ∧ bf_sol (aS σ) (uC σ) (vC σ) (gC σ) (mC σ) (it K) ∧ ∀ c, c < mC σ → aC σ c = true → vC σ c = 30 → it K (uC σ c) + gC σ c ≤ 0) ∨ (r = 0 ∧ ((K = 33 ∧ ¬ it 33 = it 32) ∨ (bf_sol (aS σ) (uC σ) (vC σ) (gC σ) (mC σ) (it K) ∧ ∃ c, c < mC σ ∧ aC σ c = true ∧ vC σ c = 30 ∧ ¬ it K (uC σ c) + gC σ c ≤ 0)))) →
      ∃ f', dk_up σ 37 f = dk_up σ 37 f' ∧ (∀ t, t < nC σ → 0 ≤ (f' t).toInt ∧ (f' t).toInt ≤ 9000000) ∧ ((r = 1 ∧ LSb (aC σ) (uC σ) (vC σ) (gC σ) (mC σ) (bX (nC σ) tk le) (xv (nC σ) f')) ∨ (r = 0 ∧ ¬ FEb (aC σ) (uC σ) (vC σ) (gC σ) (mC σ) (bX (nC σ) tk le))) := by
    intro r f K hK hf hr
    have lst : ∀ z, bf_sol (aC σ) (uC σ) (vC σ) (gC σ) (mC σ) z → (∀ j, j < 31 → x0 j ≤ z j) → ∀ k, ∀ j, j < 31 → it k j ≤ z j := by
      intro z hz hzx k j hj
      have h1 := bf_iter_le (x := x0) (y := fun j => if j < 31 then z j else x0 j) (fun j => by
        by_cases c : j < 31
        · simp only [c, if_true]; exact hzx j c
        · simp only [c, if_false]; exact Int.le_refl _) (bf_cut hN hz) k j
      rw [hit]
      simp only [hj, if_true] at h1
      exact h1
    refine ⟨f, rfl, fun t ht => ?_, ?_⟩
    · have h1 : xv (nC σ) f t = (f t).toInt := if_pos ht
      rw [← h1, hf]
      have := itb K t (by omega)
      omega
    · rcases hr with ⟨hr, h1, h2⟩ | ⟨hr, h1⟩
      · left
        refine ⟨hr, ?_⟩
        rw [← hx0, hf]
        have h30 : it K 30 = 0 := itn K 30 (by omega)
        refine ⟨fun c hc ha => ?_, fun j _ => ?_, h30, fun z hz hzx j hj => lst z hz hzx K j hj⟩
        · by_cases e : vC σ c = 30
          · rw [e, h30]; exact h2 c hc ha e
          · exact h1 c hc (decide_eq_true ⟨ha, e⟩)
        · rw [hit]; exact bf_iter_ge x0 K j
      · right
        refine ⟨hr, ?_⟩
        rw [← hx0]
        rintro ⟨z, hz, hzx, hz0⟩
        rcases h1 with ⟨-, hne⟩ | ⟨h1, c, hc, ha, hv, hgt⟩
        · have hs := bf_conv (a := aS σ) (u := uC σ) (v := vC σ) (g := gC σ) (m := mC σ) (N := 31) (x0 := x0) (fun c hc _ => ⟨(hN.u hc).2.2, (hN.v hc).2.2⟩) ⟨fun j => if j < 31 then z j else x0 j, bf_cut hN hz, fun j => by
            by_cases c : j < 31
            · simp only [c, if_true]; exact hzx j c
            · simp only [c, if_false]; exact Int.le_refl _⟩
          have a1 := iter_stays hs 1
          have a2 := iter_stays hs 2
          apply hne
          rw [hit]
          show bf_iter (aS σ) (uC σ) (vC σ) (gC σ) (mC σ) (31 + 2) x0 = bf_iter (aS σ) (uC σ) (vC σ) (gC σ) (mC σ) (31 + 1) x0
          rw [a1, a2]
        · have h3 := hz c hc ha
          rw [hv, hz0] at h3
          have h4 := lst z hz hzx K (uC σ c) (hN.u hc).2.2
          omega
  have dn : ∀ {c : Nat}, c < mC σ → (σ 35 c = 0 ↔ aC σ c = true) := fun {c} hc => by
    rw [(hcon c hc).2.2.2]
    unfold aC
    simp
  -- the last check
  have check : ∀ (d c : Nat) (r mo : Int32) (f : Nat → Int32) (K : Nat), c + d = mC σ → K ≤ 33 → xv (nC σ) f = it K → ((r = 1 ∧ bf_sol (aS σ) (uC σ) (vC σ) (gC σ) (mC σ) (it K) ∧ ∀ q, q < c → aC σ q = true → vC σ q = 30 → it K (uC σ q) + gC σ q ≤ 0) ∨ (r = 0 ∧ ((K = 33 ∧ ¬ it 33 = it 32) ∨ (bf_sol (aS σ) (uC σ) (vC σ) (gC σ) (mC σ) (it K) ∧ ∃ c, c < mC σ ∧ aC σ c = true ∧ vC σ c = 30 ∧ ¬ it K (uC σ c) + gC σ c ≤ 0)))) →
      OK 187 [(0, .inr 30), (1, .inl tk), (2, .inl le), (3, .inl mo), (4, .inl r), (5, .inl (nI c))] [] (dk_up σ 37 f) := by
    intro d
    induction d with
    | zero =>
      intro c r mo f K hc hK hf hr
      have hcm : c = mC σ := by omega
      subst hcm
      refine hC.go (fun q => if q = 187 then some 6 else none) 60 ?_
      refine ⟨fun _ => ⟨?_, post r f K hK hf hr⟩, fun h => ?_⟩
      · rcases hr with ⟨h, -⟩ | ⟨h, -⟩
        · exact Or.inr h
        · exact Or.inl h
      · exfalso
        apply h
        show σ 30 1 ≤ nI (mC σ)
        rw [hm]
        exact Int32.le_refl _
    | succ d ih =>
      intro c r mo f K hc hK hf hr
      have hcm : c < mC σ := by omega
      have ec : (nI c).toNatClampNeg = c := nI_clamp (by omega)
      have hic : vp_in (nI c) 120 := vp_in_nI (by omega) (by omega)
      obtain ⟨hu1, hu2, hu3⟩ := hN.u hcm
      obtain ⟨hv1, hv2, hv3⟩ := hN.v hcm
      obtain ⟨k1, k2, k3, k4⟩ := hcon c hcm
      have at249 : ∀ b : Int32, ((b = 1 ∧ bf_sol (aS σ) (uC σ) (vC σ) (gC σ) (mC σ) (it K) ∧ ∀ q, q < c + 1 → aC σ q = true → vC σ q = 30 → it K (uC σ q) + gC σ q ≤ 0) ∨ (b = 0 ∧ ((K = 33 ∧ ¬ it 33 = it 32) ∨ (bf_sol (aS σ) (uC σ) (vC σ) (gC σ) (mC σ) (it K) ∧ ∃ c, c < mC σ ∧ aC σ c = true ∧ vC σ c = 30 ∧ ¬ it K (uC σ c) + gC σ c ≤ 0)))) → OK 249 [(0, .inr 30), (1, .inl tk), (2, .inl le), (3, .inl mo), (4, .inl r), (5, .inl (nI c))] [.inl b] (dk_up σ 37 f) := by
        intro b hb
        refine hC.go (fun q => if q = 187 then some 6 else none) 60 ?_
        refine ⟨by decide, by decide, ?_⟩
        have key := ih (c + 1) b mo f K (by omega) hK hf hb
        rw [← nI_1 c] at key
        exact key
      refine hC.go (fun q => if q = 249 then some 6 else none) 60 ?_
      refine ⟨fun h => ?_, fun _ => ⟨fun h2 => at249 0 ?_, fun h2 => ⟨120, rfl, hic, fun h3 => at249 1 ?_, fun h3 => ⟨120, rfl, hic, fun h4 => at249 1 ?_, fun h4 => ?_⟩⟩⟩⟩
      · exfalso
        have h : σ 30 1 ≤ nI c := h
        rw [hm] at h
        exact nI_ge hcm (by omega) h
      · have h2 : r = 0 := h2
        rcases hr with ⟨q, -⟩ | ⟨-, q⟩
        · rw [q] at h2; exact absurd h2 i32_ne10
        · exact Or.inr ⟨rfl, q⟩
      all_goals
        have h2 : ¬ r = 0 := h2
        obtain ⟨g1, g2⟩ : bf_sol (aS σ) (uC σ) (vC σ) (gC σ) (mC σ) (it K) ∧ ∀ q, q < c → aC σ q = true → vC σ q = 30 → it K (uC σ q) + gC σ q ≤ 0 := by
          rcases hr with ⟨-, q⟩ | ⟨q, -⟩
          · exact q
          · exact absurd q h2
      · have h3 : ¬ σ 35 (nI c).toNatClampNeg = 0 := h3
        rw [ec, dn hcm] at h3
        refine Or.inl ⟨rfl, g1, fun q hq ha hv => ?_⟩
        by_cases e : q = c
        · rw [e] at ha; exact absurd ha h3
        · exact g2 q (by omega) ha hv
      · have h4 : 0 ≤ σ 33 (nI c).toNatClampNeg := h4
        rw [ec, k2, og_lt hv3] at h4
        refine Or.inl ⟨rfl, g1, fun q hq ha hv => ?_⟩
        by_cases e : q = c
        · rw [e] at hv; exact absurd hv h4
        · exact g2 q (by omega) ha hv
      · have h3 : ¬ ¬ σ 35 (nI c).toNatClampNeg = 0 := h3
        rw [ec, dn hcm] at h3
        have h3 := Classical.not_not.mp h3
        have h4 : ¬ 0 ≤ σ 33 (nI c).toNatClampNeg := h4
        rw [ec, k2, og_lt hv3] at h4
        have h4 := Classical.not_not.mp h4
        have hu : ¬ uC σ c = 30 := fun q => hoo c hcm ⟨q, h4⟩
        have hun : uC σ c < nC σ := by omega
        have e32 : σ 32 (nI c).toNatClampNeg = nI (uC σ c) := by rw [ec, k1, og_ne hu]
        have hiu : vp_in (σ 32 (nI c).toNatClampNeg) 30 := by rw [e32]; exact vp_in_nI (by omega) (by omega)
        have ef : (f (uC σ c)).toInt = it K (uC σ c) := by rw [← hf]; exact (if_pos hun).symm
        have hadd : (f (uC σ c) + σ 5 c).toInt = it K (uC σ c) + gC σ c := by
          have := itb K (uC σ c) (by omega)
          have := hgb c hcm
          rw [← ef]
          exact dk_add (by unfold gC at this; omega) (by unfold gC at this; omega)
        have eg : ∀ P : Int32 → Prop, P (f (uC σ c) + σ 5 c) → P (dk_up σ 37 f 37 (dk_up σ 37 f 32 (nI c).toNatClampNeg).toNatClampNeg + dk_up σ 37 f 34 (nI c).toNatClampNeg) := fun P h => by
          have e1 : dk_up σ 37 f 37 = f := rfl
          have e2 : dk_up σ 37 f 32 = σ 32 := rfl
          have e3 : dk_up σ 37 f 34 = σ 34 := rfl
          rw [e1, e2, e3, e32, nI_clamp (by omega), ec, k3]
          exact h
        refine ⟨120, rfl, hic, 30, rfl, hiu, 120, rfl, hic, fun h5 => at249 0 ?_, fun h5 => at249 1 ?_⟩
        · have h5 : 0 < f (uC σ c) + σ 5 c := by
            have h5 : 0 < dk_up σ 37 f 37 (dk_up σ 37 f 32 (nI c).toNatClampNeg).toNatClampNeg + dk_up σ 37 f 34 (nI c).toNatClampNeg := h5
            apply Classical.byContradiction
            intro q
            exact eg (fun v => ¬ 0 < v) q h5
          rw [dk_lt, hadd, i0] at h5
          exact Or.inr ⟨rfl, Or.inr ⟨g1, c, hcm, h3, h4, by omega⟩⟩
        · have h5 : ¬ 0 < f (uC σ c) + σ 5 c := by
            have h5 : ¬ 0 < dk_up σ 37 f 37 (dk_up σ 37 f 32 (nI c).toNatClampNeg).toNatClampNeg + dk_up σ 37 f 34 (nI c).toNatClampNeg := h5
            intro q
            exact h5 (eg (fun v => 0 < v) q)
          rw [dk_lt, hadd, i0] at h5
          refine Or.inl ⟨rfl, g1, fun q hq ha hv => ?_⟩
          by_cases e : q = c
          · rw [e]; omega
          · exact g2 q (by omega) ha hv
  have at173 : ∀ (K : Nat) (mo : Int32) (f : Nat → Int32), K ≤ 33 → xv (nC σ) f = it K → ((mo = 1 ∧ K = 33 ∧ ¬ it 33 = it 32) ∨ (mo = 0 ∧ bf_sol (aS σ) (uC σ) (vC σ) (gC σ) (mC σ) (it K))) → OK 173 [(0, .inr 30), (1, .inl tk), (2, .inl le), (3, .inl mo), (4, .inl (nI K))] [] (dk_up σ 37 f) := by
    intro K mo f hK hf hmo
    refine hC.go (fun q => if q = 187 then some 6 else none) 60 ?_
    refine ⟨fun h => ⟨by decide, by decide, check (mC σ) 0 0 mo f K (by omega) hK hf (Or.inr ⟨rfl, ?_⟩)⟩, fun h => ⟨by decide, by decide, check (mC σ) 0 1 mo f K (by omega) hK hf (Or.inl ⟨rfl, ?_, fun q hq => by omega⟩)⟩⟩
    · have h : ¬ mo = 0 := h
      rcases hmo with ⟨-, q⟩ | ⟨q, -⟩
      · exact Or.inl q
      · exact absurd q h
    · have h : ¬ ¬ mo = 0 := h
      rcases hmo with ⟨q, -⟩ | ⟨-, q⟩
      · exact absurd (by rw [q]; exact i32_ne10) h
      · exact q
  have outer : ∀ (e K : Nat) (mo : Int32) (f : Nat → Int32), K + e = 33 → xv (nC σ) f = it K → ((mo = 1 ∧ (K = 0 ∨ ∃ k, K = k + 1 ∧ ¬ it (k + 1) = it k)) ∨ (mo = 0 ∧ bf_sol (aS σ) (uC σ) (vC σ) (gC σ) (mC σ) (it K))) → OK 41 [(0, .inr 30), (1, .inl tk), (2, .inl le), (3, .inl mo), (4, .inl (nI K))] [] (dk_up σ 37 f) := by
    intro e
    induction e with
    | zero =>
      intro K mo f hK hf hmo
      have hK : K = 33 := by omega
      subst hK
      have key := at173 33 mo f (by omega) hf (by
        rcases hmo with ⟨q1, q2⟩ | q
        · rcases q2 with q2 | ⟨k, q2, q3⟩
          · omega
          · have : k = 32 := by omega
            subst this
            exact Or.inl ⟨q1, rfl, q3⟩
        · exact Or.inr q)
      refine hC.go (fun q => if q = 173 then some 5 else none) 60 ?_
      exact ⟨fun _ => key, fun h => absurd (show nI 33 ≤ nI 33 by decide) h⟩
    | succ e ihK =>
      intro K mo f0 hK hf0 hmo
      refine hC.go (fun q => if q = 173 then some 5 else if q = 57 then some 6 else none) 60 ?_
      refine ⟨fun h => ?_, fun _ => ⟨fun h => at173 K mo f0 (by omega) hf0 ?_, fun h => ⟨by decide, by decide, ?_⟩⟩⟩
      · exfalso
        have h : nI 33 ≤ nI K := h
        rw [nI_leI (by omega) (by omega)] at h
        omega
      · have h : mo = 0 := h
        rcases hmo with ⟨q, -⟩ | q
        · rw [q] at h; exact absurd h i32_ne10
        · exact Or.inr q
      have inner : ∀ (d c : Nat) (mo : Int32) (f : Nat → Int32), c + d = mC σ → xv (nC σ) f = bf_pass (aS σ) (uC σ) (vC σ) (gC σ) c (it K) → ((mo = 0 ∧ bf_pass (aS σ) (uC σ) (vC σ) (gC σ) c (it K) = it K) ∨ (mo = 1 ∧ ∃ j, it K j < bf_pass (aS σ) (uC σ) (vC σ) (gC σ) c (it K) j)) → OK 57 [(0, .inr 30), (1, .inl tk), (2, .inl le), (3, .inl mo), (4, .inl (nI K)), (5, .inl (nI c))] [] (dk_up σ 37 f) := by
        intro d
        induction d with
        | zero =>
          intro c mo f hc hf hr
          have hcm : c = mC σ := by omega
          subst hcm
          have key := ihK (K + 1) mo f (by omega) (by rw [its]; exact hf) (by
            rcases hr with ⟨q1, q2⟩ | ⟨q1, j, q2⟩
            · right
              refine ⟨q1, ?_⟩
              rw [its, q2]
              exact bf_stable q2
            · left
              refine ⟨q1, Or.inr ⟨K, rfl, fun q => ?_⟩⟩
              rw [its] at q
              rw [q] at q2
              omega)
          refine hC.go (fun q => if q = 41 then some 5 else none) 60 ?_
          refine ⟨fun _ => ⟨by decide, ?_⟩, fun h => ?_⟩
          · rw [← nI_1 K] at key
            exact key
          · exfalso
            apply h
            show σ 30 1 ≤ nI (mC σ)
            rw [hm]
            exact Int32.le_refl _
        | succ d ih =>
          intro c mo f hc hf hr
          have hcm : c < mC σ := by omega
          have ec : (nI c).toNatClampNeg = c := nI_clamp (by omega)
          have hic : vp_in (nI c) 120 := vp_in_nI (by omega) (by omega)
          obtain ⟨hu1, hu2, hu3⟩ := hN.u hcm
          obtain ⟨hv1, hv2, hv3⟩ := hN.v hcm
          obtain ⟨k1, k2, k3, k4⟩ := hcon c hcm
          have hpass : bf_pass (aS σ) (uC σ) (vC σ) (gC σ) (c + 1) (it K) = bf_one (aS σ) (uC σ) (vC σ) (gC σ) (xv (nC σ) f) c := by
            rw [hf]; rfl
          have hbd := bf_pass_bg (a := aS σ) (v := vC σ) hub hgb (B := 4001000 + 120000 * K) (x := it K) (fun j hj => by have := itb K j hj; omega) c (by omega)
          rw [← hf] at hbd
          have hnext : ∀ mo' f', xv (nC σ) f' = bf_pass (aS σ) (uC σ) (vC σ) (gC σ) (c + 1) (it K) → ((mo' = 0 ∧ bf_pass (aS σ) (uC σ) (vC σ) (gC σ) (c + 1) (it K) = it K) ∨ (mo' = 1 ∧ ∃ j, it K j < bf_pass (aS σ) (uC σ) (vC σ) (gC σ) (c + 1) (it K) j)) → OK 57 [(0, .inr 30), (1, .inl tk), (2, .inl le), (3, .inl mo'), (4, .inl (nI K)), (5, .inl (nI c + 1))] [] (dk_up σ 37 f') := by
            intro mo' f' h1 h2
            rw [nI_1]
            exact ih (c + 1) mo' f' (by omega) h1 h2
          have hskip : ¬ (aS σ c = true ∧ xv (nC σ) f (vC σ c) < xv (nC σ) f (uC σ c) + gC σ c) → OK 57 [(0, .inr 30), (1, .inl tk), (2, .inl le), (3, .inl mo), (4, .inl (nI K)), (5, .inl (nI c + 1))] [] (dk_up σ 37 f) := by
            intro hno
            have e1 : bf_pass (aS σ) (uC σ) (vC σ) (gC σ) (c + 1) (it K) = bf_pass (aS σ) (uC σ) (vC σ) (gC σ) c (it K) := by
              rw [hpass]
              unfold bf_one
              rw [if_neg hno]
              exact hf
            refine hnext mo f (by rw [e1]; exact hf) ?_
            rw [e1]
            exact hr
          have hm' : (1000 : Int) * (c : Int) ≤ 120000 := by omega
          have at115 : aC σ c = true → ¬ vC σ c = 30 → ∀ z : Int32, z.toInt = xv (nC σ) f (uC σ c) → OK 115 [(0, .inr 30), (1, .inl tk), (2, .inl le), (3, .inl mo), (4, .inl (nI K)), (5, .inl (nI c))] [.inl z] (dk_up σ 37 f) := by
            intro ha hv z hz
            have hvn : vC σ c < nC σ := by omega
            have e33 : σ 33 (nI c).toNatClampNeg = nI (vC σ c) := by rw [ec, k2, og_ne hv]
            have hiv : vp_in (σ 33 (nI c).toNatClampNeg) 30 := by rw [e33]; exact vp_in_nI (by omega) (by omega)
            have hg := hgb c hcm
            have hbu := hbd (uC σ c) hu3
            have ha' : aS σ c = true := decide_eq_true ⟨ha, hv⟩
            obtain ⟨w, hw⟩ : ∃ w, w = z + σ 34 (nI c).toNatClampNeg := ⟨_, rfl⟩
            have hwi : w.toInt = xv (nC σ) f (uC σ c) + gC σ c := by
              rw [hw, ec, k3, ← hz]
              exact dk_add (by unfold gC at hg; rw [hz]; omega) (by unfold gC at hg; rw [hz]; omega)
            have ev : (f (vC σ c)).toInt = xv (nC σ) f (vC σ c) := (if_pos hvn).symm
            refine hC.go (fun q => if q = 57 then some 6 else none) 60 ?_
            refine ⟨120, rfl, hic, by decide, 120, rfl, hic, 30, rfl, hiv, fun h => ⟨120, rfl, hic, 30, rfl, hiv, by decide, by decide, ?_⟩, fun h => ⟨by decide, hskip (fun q => ?_)⟩⟩
            · have h : f (σ 33 (nI c).toNatClampNeg).toNatClampNeg < z + σ 34 (nI c).toNatClampNeg := h
              rw [e33, nI_clamp (by omega), ← hw, dk_lt, hwi, ev] at h
              show OK 57 [(0, .inr 30), (1, .inl tk), (2, .inl le), (3, .inl 1), (4, .inl (nI K)), (5, .inl (nI c + 1))] [] (dk_up (dk_up σ 37 f) 37 (upd f (σ 33 (nI c).toNatClampNeg).toNatClampNeg (z + σ 34 (nI c).toNatClampNeg)))
              rw [dk_up_up, e33, nI_clamp (by omega), ← hw]
              refine hnext 1 (upd f (vC σ c) w) ?_ (Or.inr ⟨rfl, vC σ c, ?_⟩)
              · rw [hpass]
                unfold bf_one
                rw [if_pos ⟨ha', h⟩]
                funext j
                unfold xv upd
                by_cases e : j = vC σ c
                · rw [if_pos (by omega), if_pos e, if_pos e, hwi]
                  rfl
                · rw [if_neg e, if_neg e]
              · have hge := bf_pass_ge (a := aS σ) (u := uC σ) (v := vC σ) (g := gC σ) (it K) c (vC σ c)
                rw [← hf] at hge
                rw [hpass]
                have := bf_one_at (a := aS σ) (u := uC σ) (v := vC σ) (g := gC σ) (xv (nC σ) f) c ha'
                omega
            · have h : ¬ f (σ 33 (nI c).toNatClampNeg).toNatClampNeg < z + σ 34 (nI c).toNatClampNeg := h
              rw [e33, nI_clamp (by omega), ← hw, dk_lt, hwi, ev] at h
              exact h q.2
          refine hC.go (fun q => if q = 57 ∨ q = 115 then some 6 else none) 60 ?_
          refine ⟨fun h => ?_, fun _ => ⟨120, rfl, hic, fun h2 => ⟨by decide, hskip (fun q => ?_)⟩, fun h2 => ⟨120, rfl, hic, fun h3 => ⟨120, rfl, hic, fun h4 => ⟨120, rfl, hic, 30, rfl, ?_, at115 ?_ ?_ _ ?_⟩, fun h4 => at115 ?_ ?_ _ ?_⟩, fun h3 => ⟨by decide, hskip (fun q => ?_)⟩⟩⟩⟩
          · exfalso
            have h : σ 30 1 ≤ nI c := h
            rw [hm] at h
            exact nI_ge hcm (by omega) h
          · have h2 : ¬ σ 35 (nI c).toNatClampNeg = 0 := h2
            rw [ec, dn hcm] at h2
            exact h2 (of_decide_eq_true q.1).1
          all_goals
            have h2 : ¬ ¬ σ 35 (nI c).toNatClampNeg = 0 := h2
            rw [ec, dn hcm] at h2
            have h2 := Classical.not_not.mp h2
          · have h4 : 0 ≤ σ 32 (nI c).toNatClampNeg := h4
            rw [ec, k1, og_lt hu3] at h4
            show vp_in (σ 32 (nI c).toNatClampNeg) 30
            rw [ec, k1, og_ne h4]
            exact vp_in_nI (by omega) (by omega)
          · exact h2
          · have h3 : 0 ≤ σ 33 (nI c).toNatClampNeg := h3
            rw [ec, k2, og_lt hv3] at h3
            exact h3
          · have h4 : 0 ≤ σ 32 (nI c).toNatClampNeg := h4
            rw [ec, k1, og_lt hu3] at h4
            show (f (σ 32 (nI c).toNatClampNeg).toNatClampNeg).toInt = _
            rw [ec, k1, og_ne h4, nI_clamp (by omega)]
            exact (if_pos (by omega)).symm
          · exact h2
          · have h3 : 0 ≤ σ 33 (nI c).toNatClampNeg := h3
            rw [ec, k2, og_lt hv3] at h3
            exact h3
          · have h4 : ¬ 0 ≤ σ 32 (nI c).toNatClampNeg := h4
            rw [ec, k1, og_lt hu3] at h4
            have h4 := Classical.not_not.mp h4
            rw [h4]
            exact (if_neg (by omega)).symm
          · have h3 : ¬ 0 ≤ σ 33 (nI c).toNatClampNeg := h3
            rw [ec, k2, og_lt hv3] at h3
            exact h3 (of_decide_eq_true q.1).2
      exact inner (mC σ) 0 0 f0 (by omega) (by rw [hf0]; rfl) (Or.inl ⟨rfl, rfl⟩)
  have first : ∀ (e t : Nat) (f : Nat → Int32), t + e = nC σ → (∀ j, j < t → f j = bS tk le j) → OK 2 [(0, .inr 30), (1, .inl tk), (2, .inl le), (3, .inl (nI t))] [] (dk_up σ 37 f) := by
    intro e
    induction e with
    | zero =>
      intro t f ht hf
      have ht : t = nC σ := by omega
      subst ht
      have key := outer 33 0 1 f (by omega) (by
        rw [it0, hx0]
        funext j
        unfold bX xv
        by_cases c : j < nC σ
        · rw [if_pos c, if_pos c, hf j c]
        · rw [if_neg c, if_neg c]) (Or.inl ⟨rfl, Or.inl rfl⟩)
      refine hC.go (fun q => if q = 41 then some 5 else none) 60 ?_
      refine ⟨fun _ => ⟨by decide, by decide, key⟩, fun h => ?_⟩
      exfalso
      apply h
      show σ 30 0 ≤ nI (nC σ)
      rw [hn]
      exact Int32.le_refl _
    | succ e ih =>
      intro t f ht hf
      have et : (nI t).toNatClampNeg = t := nI_clamp (by omega)
      have hit : vp_in (nI t) 30 := vp_in_nI (by omega) (by omega)
      have at29 : ∀ z, z = bS tk le t → OK 29 [(0, .inr 30), (1, .inl tk), (2, .inl le), (3, .inl (nI t))] [.inl z, .inl (nI t), .inr 37] (dk_up σ 37 f) := by
        intro z hz
        refine hC.go (fun q => if q = 2 then some 4 else none) 60 ?_
        refine ⟨30, rfl, hit, by decide, ?_⟩
        show OK 2 [(0, .inr 30), (1, .inl tk), (2, .inl le), (3, .inl (nI t + 1))] [] (dk_up (dk_up σ 37 f) 37 (upd f (nI t).toNatClampNeg z))
        rw [dk_up_up, et, nI_1]
        refine ih (t + 1) (upd f t z) (by omega) (fun j hj => ?_)
        unfold upd
        by_cases c : j = t
        · rw [if_pos c, c, hz]
        · rw [if_neg c]; exact hf j (by omega)
      refine hC.go (fun q => if q = 29 then some 4 else none) 60 ?_
      refine ⟨fun h => ?_, fun _ => ⟨fun h => at29 0 ?_, fun h => ⟨fun h2 => at29 0 ?_, fun h2 => at29 le ?_⟩⟩⟩
      · exfalso
        have h : σ 30 0 ≤ nI t := h
        rw [hn, nI_leI (by omega) (by omega)] at h
        omega
      · exact (if_neg (fun q => h q.1)).symm
      · exact (if_neg (fun q => i32_nlt.mpr h2 q.2)).symm
      · exact (if_pos ⟨Classical.not_not.mp h, i32_nle.mp h2⟩).symm
  refine hC.go (fun q => if q = 2 then some 4 else none) 60 ?_
  refine ⟨by decide, ?_⟩
  have key := first (nC σ) 0 (σ 37) (by omega) (fun j hj => by omega)
  rw [dk_up_id] at key
  exact key
