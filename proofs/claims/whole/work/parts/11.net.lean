/-! the class's network, as numbers -/
def toI (f : Nat → Int32) : Nat → Int := fun j => (f j).toInt
def nC (σ : dk_S) : Nat := (σ 1 0).toNatClampNeg
def mC (σ : dk_S) : Nat := (σ 1 1).toNatClampNeg
def aC (σ : dk_S) : Nat → Bool := fun c => decide (σ 6 c = 0)
def uC (σ : dk_S) : Nat → Nat := fun c => (σ 3 c).toNatClampNeg
def vC (σ : dk_S) : Nat → Nat := fun c => (σ 4 c).toNatClampNeg
def gC (σ : dk_S) : Nat → Int := fun c => (σ 5 c).toInt
def dC (σ : dk_S) : Nat → Int := fun t => (σ 2 t).toInt
/-- a place of n tasks: a task, or the origin -/
def pl_ok (n : Nat) (x : Int32) : Prop := ∃ k : Nat, x = nI k ∧ (k < n ∨ k = 30)
def NW (σ : dk_S) : Prop := ∃ n m : Nat, n ≤ 30 ∧ m ≤ 120 ∧ σ 1 0 = nI n ∧ σ 1 1 = nI m ∧ (∀ c, c < m → pl_ok n (σ 3 c) ∧ pl_ok n (σ 4 c) ∧ -1000 ≤ (σ 5 c).toInt ∧ (σ 5 c).toInt ≤ 1000) ∧ (∀ c, c < 120 → σ 6 c = 0 ∨ σ 6 c = 1) ∧ (∀ t, t < n → 0 ≤ (σ 2 t).toInt ∧ (σ 2 t).toInt ≤ 1000)
theorem NW.n30 {σ : dk_S} (h : NW σ) : nC σ ≤ 30 := by
  obtain ⟨n, m, h1, h2, h3, h4, -⟩ := h
  unfold nC; rw [h3, nI_clamp (by omega)]; exact h1
theorem NW.m120 {σ : dk_S} (h : NW σ) : mC σ ≤ 120 := by
  obtain ⟨n, m, h1, h2, h3, h4, -⟩ := h
  unfold mC; rw [h4, nI_clamp (by omega)]; exact h2
theorem NW.n {σ : dk_S} (h : NW σ) : σ 1 0 = nI (nC σ) := by
  obtain ⟨n, m, h1, h2, h3, h4, -⟩ := h
  unfold nC; rw [h3, nI_clamp (by omega)]
theorem NW.m {σ : dk_S} (h : NW σ) : σ 1 1 = nI (mC σ) := by
  obtain ⟨n, m, h1, h2, h3, h4, -⟩ := h
  unfold mC; rw [h4, nI_clamp (by omega)]
theorem NW.u {σ : dk_S} (h : NW σ) {c : Nat} (hc : c < mC σ) : σ 3 c = nI (uC σ c) ∧ (uC σ c < nC σ ∨ uC σ c = 30) ∧ uC σ c < 31 := by
  have h0 := h.n30
  obtain ⟨n, m, h1, h2, h3, h4, h5, -⟩ := h
  have e1 : mC σ = m := by unfold mC; rw [h4, nI_clamp (by omega)]
  have e2 : nC σ = n := by unfold nC; rw [h3, nI_clamp (by omega)]
  rw [e1] at hc
  obtain ⟨k, hk, hk2⟩ := (h5 c hc).1
  have : uC σ c = k := by unfold uC; rw [hk, nI_clamp (by omega)]
  rw [this, e2]
  exact ⟨hk, hk2, by omega⟩
theorem NW.v {σ : dk_S} (h : NW σ) {c : Nat} (hc : c < mC σ) : σ 4 c = nI (vC σ c) ∧ (vC σ c < nC σ ∨ vC σ c = 30) ∧ vC σ c < 31 := by
  have h0 := h.n30
  obtain ⟨n, m, h1, h2, h3, h4, h5, -⟩ := h
  have e1 : mC σ = m := by unfold mC; rw [h4, nI_clamp (by omega)]
  have e2 : nC σ = n := by unfold nC; rw [h3, nI_clamp (by omega)]
  rw [e1] at hc
  obtain ⟨k, hk, hk2⟩ := (h5 c hc).2.1
  have : vC σ c = k := by unfold vC; rw [hk, nI_clamp (by omega)]
  rw [this, e2]
  exact ⟨hk, hk2, by omega⟩
theorem NW.g {σ : dk_S} (h : NW σ) {c : Nat} (hc : c < mC σ) : -1000 ≤ gC σ c ∧ gC σ c ≤ 1000 := by
  obtain ⟨n, m, h1, h2, h3, h4, h5, -⟩ := h
  have e1 : mC σ = m := by unfold mC; rw [h4, nI_clamp (by omega)]
  rw [e1] at hc
  exact (h5 c hc).2.2
theorem NW.d {σ : dk_S} (h : NW σ) {t : Nat} (ht : t < nC σ) : 0 ≤ dC σ t ∧ dC σ t ≤ 1000 := by
  obtain ⟨n, m, h1, h2, h3, h4, -, -, h5⟩ := h
  have e2 : nC σ = n := by unfold nC; rw [h3, nI_clamp (by omega)]
  rw [e2] at ht
  exact h5 t ht
theorem NW.b {σ : dk_S} (h : NW σ) {c : Nat} (hc : c < 120) : σ 6 c = 0 ∨ σ 6 c = 1 := by
  obtain ⟨n, m, -, -, -, -, -, h5, -⟩ := h
  exact h5 c hc
/-- all of the first 31 between -B and B -/
def bd (B : Int) (f : Nat → Int32) : Prop := ∀ j, j < 31 → -B ≤ (f j).toInt ∧ (f j).toInt ≤ B
theorem bf_pass_bd {σ : dk_S} (h : NW σ) {B : Int} {x : Nat → Int} (hx : ∀ j, j < 31 → -B ≤ x j ∧ x j ≤ B) : ∀ c, c ≤ mC σ → ∀ j, j < 31 → -B ≤ bf_pass (aC σ) (uC σ) (vC σ) (gC σ) c x j ∧ bf_pass (aC σ) (uC σ) (vC σ) (gC σ) c x j ≤ B + 1000 * c := by
  intro c
  induction c with
  | zero => intro _ j hj; have := hx j hj; simp only [bf_pass]; omega
  | succ c ih =>
    intro hc j hj
    have ih := ih (by omega)
    simp only [bf_pass]
    have h1 := (h.u (show c < mC σ by omega)).2.2
    have h2 := h.g (show c < mC σ by omega)
    have h3 := ih _ h1
    have h4 := ih j hj
    generalize hy : bf_pass (aC σ) (uC σ) (vC σ) (gC σ) c x = y at *
    unfold bf_one
    split
    · dsimp only
      split
      · next e => rename_i hlt; subst e; omega
      · omega
    · omega
abbrev sp_raiseOnce : dk_M := dk_sp 2 true (fun s : Nat => [.inr 1, .inr s]) (fun s σ => (dk_arr s = some (false, 31) ∧ 6 < s) ∧ NW σ ∧ bd 100000000 (σ s))
  (fun s σ r σ' => ∃ f, σ' = dk_up σ s f ∧ toI f = bf_pass (aC σ) (uC σ) (vC σ) (gC σ) (mC σ) (toI (σ s)) ∧ ((r = 0 ∧ f = σ s) ∨ (r = 1 ∧ ¬ f = σ s)))
set_option maxRecDepth 100000 in
set_option maxHeartbeats 1000000 in
theorem q_raiseOnce : dk_pure (kX4_raiseOnce, fX4, [], [], [], 5, true) sp_raiseOnce := by
  refine dk_sp_pure (fun x x' e => by cases e; rfl) (fun _ => rfl) ?_
  intro OK s σ hpre hC
  obtain ⟨⟨hs, hs6⟩, hN, hB⟩ := hpre
  have hm := hN.m120
  have up : ∀ (f : Nat → Int32) (q : Nat), q ≤ 6 → dk_up σ s f q = σ q := fun f q h => dk_up_ne (by omega)
  have loop : ∀ (d c : Nat) (r : Int32) (f : Nat → Int32), c + d = mC σ → toI f = bf_pass (aC σ) (uC σ) (vC σ) (gC σ) c (toI (σ s)) → ((r = 0 ∧ f = σ s) ∨ (r = 1 ∧ ∃ j, (σ s j).toInt < (f j).toInt)) → OK 4 [(0, .inr 1), (1, .inr s), (2, .inl r), (3, .inl (nI c))] [] (dk_up σ s f) := by
    intro d
    induction d with
    | zero =>
      intro c r f hcd hf hr
      have hcm : c = mC σ := by omega
      refine hC.go (fun q => if q = 4 then some 4 else none) 60 ?_
      refine ⟨fun _ => ⟨?_, f, rfl, by rw [← hcm]; exact hf, ?_⟩, fun h => ?_⟩
      · rcases hr with ⟨h, -⟩ | ⟨h, -⟩
        · exact Or.inl h
        · exact Or.inr h
      · rcases hr with ⟨h1, h2⟩ | ⟨h1, j, h2⟩
        · exact Or.inl ⟨h1, h2⟩
        · exact Or.inr ⟨h1, fun e => by rw [e] at h2; omega⟩
      · exfalso
        apply h
        show dk_up σ s f 1 1 ≤ nI c
        rw [up f 1 (by omega), hN.m, hcm]
        exact Int32.le_refl _
    | succ d ih =>
      intro c r f hcd hf hr
      have hcm : c < mC σ := by omega
      have ec : (nI c).toNatClampNeg = c := nI_clamp (by omega)
      obtain ⟨hu1, hu2, hu3⟩ := hN.u hcm
      obtain ⟨hv1, hv2, hv3⟩ := hN.v hcm
      have hg := hN.g hcm
      have hic : vp_in (nI c) 120 := vp_in_nI (by omega) (by omega)
      have hbd := bf_pass_bd hN (x := toI (σ s)) hB c (by omega)
      rw [← hf] at hbd
      have hadd : (f (uC σ c) + σ 5 c).toInt = (f (uC σ c)).toInt + gC σ c := by
        have := hbd _ hu3
        unfold toI at this
        exact dk_add (by unfold gC at hg; omega) (by unfold gC at hg; omega)
      have hnext : ∀ r' f', toI f' = bf_pass (aC σ) (uC σ) (vC σ) (gC σ) (c + 1) (toI (σ s)) → ((r' = 0 ∧ f' = σ s) ∨ (r' = 1 ∧ ∃ j, (σ s j).toInt < (f' j).toInt)) → OK 4 [(0, .inr 1), (1, .inr s), (2, .inl r'), (3, .inl (nI c + 1))] [] (dk_up σ s f') := by
        intro r' f' h1 h2
        rw [nI_1]
        exact ih (c + 1) r' f' (by omega) h1 h2
      have hpass : bf_pass (aC σ) (uC σ) (vC σ) (gC σ) (c + 1) (toI (σ s)) = bf_one (aC σ) (uC σ) (vC σ) (gC σ) (toI f) c := by
        rw [hf]; rfl
      refine hC.go (fun q => if q = 4 then some 4 else none) 60 ?_
      refine ⟨fun h => ?_, fun h => ⟨120, rfl, hic, 31, hs, ?_, 120, rfl, hic, ?_, 120, rfl, hic, fun h2 => ?_, fun h2 => ⟨120, rfl, hic, 31, hs, ?_, fun h3 => ?_, fun h3 => ⟨120, rfl, hic, 31, hs, ?_, ?_, ?_⟩⟩⟩⟩
      · exfalso
        have h : dk_up σ s f 1 1 ≤ nI c := h
        rw [up f 1 (by omega), hN.m] at h
        exact nI_ge hcm (by omega) h
      · rw [ec, up f 3 (by omega), hu1]; exact vp_in_nI hu3 (by omega)
      · exact Nat.lt_succ_self 4
      · have h2 : ¬ dk_up σ s f 6 (nI c).toNatClampNeg = 0 := h2
        rw [ec, up f 6 (by omega)] at h2
        refine ⟨by decide, hnext r f ?_ hr⟩
        rw [hpass]
        unfold bf_one aC
        rw [if_neg]
        intro q
        exact h2 (of_decide_eq_true q.1)
      · rw [ec, up f 4 (by omega), hv1]; exact vp_in_nI hv3 (by omega)
      · have h3 : dk_up σ s f s (dk_up σ s f 3 (nI c).toNatClampNeg).toNatClampNeg + dk_up σ s f 5 (nI c).toNatClampNeg ≤ dk_up σ s f s (dk_up σ s f 4 (nI c).toNatClampNeg).toNatClampNeg := h3
        rw [ec, up f 3 (by omega), up f 4 (by omega), up f 5 (by omega), dk_up_self] at h3
        have h3 : f (uC σ c) + σ 5 c ≤ f (vC σ c) := h3
        rw [dk_le, hadd] at h3
        refine ⟨by decide, hnext r f ?_ hr⟩
        rw [hpass]
        unfold bf_one
        rw [if_neg]
        rintro ⟨-, q⟩
        unfold toI at q
        omega
      · rw [ec, up f 4 (by omega), hv1]; exact vp_in_nI hv3 (by omega)
      · exact Nat.lt_of_sub_eq_succ rfl
      · have h3 : ¬ dk_up σ s f s (dk_up σ s f 3 (nI c).toNatClampNeg).toNatClampNeg + dk_up σ s f 5 (nI c).toNatClampNeg ≤ dk_up σ s f s (dk_up σ s f 4 (nI c).toNatClampNeg).toNatClampNeg := h3
        have h2 : ¬ ¬ dk_up σ s f 6 (nI c).toNatClampNeg = 0 := h2
        rw [ec, up f 6 (by omega)] at h2
        refine ⟨by decide, ?_⟩
        show OK 4 [(0, .inr 1), (1, .inr s), (2, .inl 1), (3, .inl (nI c + 1))] [] (dk_up (dk_up σ s f) s (upd (dk_up σ s f s) (dk_up σ s f 4 (nI c).toNatClampNeg).toNatClampNeg (dk_up σ s f s (dk_up σ s f 3 (nI c).toNatClampNeg).toNatClampNeg + dk_up σ s f 5 (nI c).toNatClampNeg)))
        rw [ec, up f 3 (by omega), up f 4 (by omega), up f 5 (by omega), dk_up_self] at h3 ⊢
        rw [dk_up_up]
        have h3 : ¬ f (uC σ c) + σ 5 c ≤ f (vC σ c) := h3
        rw [dk_le, hadd] at h3
        refine hnext 1 (upd f (vC σ c) (f (uC σ c) + σ 5 c)) ?_ (Or.inr ⟨rfl, vC σ c, ?_⟩)
        · rw [hpass]
          unfold bf_one
          rw [if_pos ⟨decide_eq_true (Classical.not_not.mp h2), by unfold toI; omega⟩]
          funext j
          unfold toI upd
          split
          · exact hadd
          · rfl
        · have hge := bf_pass_ge (a := aC σ) (u := uC σ) (v := vC σ) (g := gC σ) (toI (σ s)) c (vC σ c)
          rw [← hf] at hge
          unfold toI at hge
          have e1 : upd f (vC σ c) (f (uC σ c) + σ 5 c) (vC σ c) = f (uC σ c) + σ 5 c := by simp [upd]
          rw [e1, hadd]
          omega
  refine hC.go (fun q => if q = 4 then some 4 else none) 60 ?_
  refine ⟨by decide, by decide, ?_⟩
  have := loop (mC σ) 0 0 (σ s) (by omega) rfl (Or.inl ⟨rfl, rfl⟩)
  rw [dk_up_id] at this
  exact this
