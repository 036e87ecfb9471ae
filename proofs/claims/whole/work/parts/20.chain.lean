/-! the class's Chain: isTight, shortenOnce, measure -/
/-- a constraint between tasks that leaves no time -/
def tB (σ : dk_S) : Nat → Bool := fun c => decide (aC σ c = true ∧ ¬ uC σ c = 30 ∧ ¬ vC σ c = 30 ∧ toI (σ 10) (vC σ c) = toI (σ 10) (uC σ c) + gC σ c)
abbrev sp_isTight : dk_M := dk_sp 2 true (fun c : Int32 => [.inr 15, .inl c]) (fun c σ => NW σ ∧ bd 20000000 (σ 10) ∧ ∃ k, k < mC σ ∧ c = nI k) (fun c σ r σ' => σ' = σ ∧ r = if tB σ c.toNatClampNeg = true then 1 else 0)
set_option maxRecDepth 100000 in
set_option maxHeartbeats 1000000 in
theorem q_isTight : dk_pure (kX0_isTight, fX0, [], [], [], 4, true) sp_isTight := by
  refine dk_sp_pure (fun x x' e => by cases e; rfl) (fun _ => rfl) ?_
  rintro OK c σ ⟨hN, hB, k, hk, rfl⟩ hC
  have hm := hN.m120
  have ek : (nI k).toNatClampNeg = k := nI_clamp (by omega)
  have hi : vp_in (nI k) 120 := vp_in_nI (by omega) (by omega)
  obtain ⟨hu1, hu2, hu3⟩ := hN.u hk
  obtain ⟨hv1, hv2, hv3⟩ := hN.v hk
  have hg := hN.g hk
  have hbu := hB _ hu3
  have hbv := hB _ hv3
  have hadd : (σ 10 (uC σ k) + σ 5 k).toInt = toI (σ 10) (uC σ k) + gC σ k := dk_add (by unfold gC at hg; omega) (by unfold gC at hg; omega)
  have no : ¬ (aC σ k = true ∧ ¬ uC σ k = 30 ∧ ¬ vC σ k = 30 ∧ toI (σ 10) (vC σ k) = toI (σ 10) (uC σ k) + gC σ k) → (0 : Int32) = if tB σ (nI k).toNatClampNeg = true then 1 else 0 := by
    intro h
    rw [ek, if_neg]
    unfold tB
    rw [decide_eq_true_eq]
    exact h
  refine hC.go (fun _ => none) 60 ?_
  refine ⟨120, rfl, hi, by decide, 120, rfl, hi, by decide, 120, rfl, hi, fun h => ⟨Or.inl rfl, rfl, no ?_⟩, fun h => ⟨fun h2 => ⟨Or.inl rfl, rfl, no ?_⟩, fun h2 => ⟨fun h3 => ⟨Or.inl rfl, rfl, no ?_⟩, fun h3 => ⟨31, rfl, ?_, 31, rfl, ?_, 120, rfl, hi, fun h4 => ⟨Or.inl rfl, rfl, no ?_⟩, fun h4 => ⟨Or.inr rfl, rfl, ?_⟩⟩⟩⟩⟩
  · have h : ¬ σ 6 (nI k).toNatClampNeg = 0 := h
    rw [ek] at h
    rintro ⟨q, -⟩
    exact h (of_decide_eq_true q)
  · have h2 : σ 3 (nI k).toNatClampNeg = nI 30 := h2
    rw [ek, hu1, nI_eq (by omega) (by omega)] at h2
    exact fun q => q.2.1 h2
  · have h3 : σ 4 (nI k).toNatClampNeg = nI 30 := h3
    rw [ek, hv1, nI_eq (by omega) (by omega)] at h3
    exact fun q => q.2.2.1 h3
  · rw [ek, hv1]; exact vp_in_nI hv3 (by omega)
  · rw [ek, hu1]; exact vp_in_nI hu3 (by omega)
  · have h4 : ¬ σ 10 (σ 4 (nI k).toNatClampNeg).toNatClampNeg = σ 10 (σ 3 (nI k).toNatClampNeg).toNatClampNeg + σ 5 (nI k).toNatClampNeg := h4
    rw [ek] at h4
    have h4 : ¬ σ 10 (vC σ k) = σ 10 (uC σ k) + σ 5 k := h4
    rw [dk_eq, hadd] at h4
    exact fun q => h4 q.2.2.2
  · have h4 : ¬ ¬ σ 10 (σ 4 (nI k).toNatClampNeg).toNatClampNeg = σ 10 (σ 3 (nI k).toNatClampNeg).toNatClampNeg + σ 5 (nI k).toNatClampNeg := h4
    rw [ek] at h4
    have h4 : ¬ ¬ σ 10 (vC σ k) = σ 10 (uC σ k) + σ 5 k := h4
    rw [dk_eq, hadd] at h4
    have h : ¬ ¬ σ 6 (nI k).toNatClampNeg = 0 := h
    rw [ek] at h
    have h2 : ¬ σ 3 (nI k).toNatClampNeg = nI 30 := h2
    rw [ek, hu1] at h2
    have h3 : ¬ σ 4 (nI k).toNatClampNeg = nI 30 := h3
    rw [ek, hv1] at h3
    show (1 : Int32) = _
    rw [ek, if_pos]
    unfold tB
    rw [decide_eq_true_eq]
    exact ⟨decide_eq_true (Classical.not_not.mp h), fun e => h2 (by rw [e]), fun e => h3 (by rw [e]), Classical.not_not.mp h4⟩
theorem tB_up {σ : dk_S} {s : Nat} {f : Nat → Int32} (h : 10 < s) : tB (dk_up σ s f) = tB σ := by
  unfold tB
  rw [aC_up (by omega), uC_up (by omega), vC_up (by omega), gC_up (by omega), dk_up_ne (show ¬ 10 = s by omega)]
theorem tB_uv {σ : dk_S} (hN : NW σ) {c : Nat} (hc : c < mC σ) (h : tB σ c = true) : uC σ c < nC σ ∧ vC σ c < nC σ := by
  unfold tB at h
  rw [decide_eq_true_eq] at h
  obtain ⟨-, h1, h2, -⟩ := h
  have q1 := (hN.u hc).2.1
  have q2 := (hN.v hc).2.1
  omega
def bd3 (B : Int) (f : Nat → Int32) : Prop := ∀ j, j < 30 → -B ≤ (f j).toInt ∧ (f j).toInt ≤ B
theorem bf_pass_b1 {a : Nat → Bool} {u v : Nat → Nat} {m : Nat} (hu : ∀ c, c < m → a c = true → u c < 30) {B : Int} {x : Nat → Int} (hx : ∀ j, j < 30 → -B ≤ x j ∧ x j ≤ B) : ∀ c, c ≤ m → ∀ j, j < 30 → -B ≤ bf_pass a u v (fun _ => -1) c x j ∧ bf_pass a u v (fun _ => -1) c x j ≤ B := by
  intro c
  induction c with
  | zero => intro _ j hj; exact hx j hj
  | succ c ih =>
    intro hc j hj
    have ih := ih (by omega)
    simp only [bf_pass]
    have h4 := ih j hj
    generalize hy : bf_pass a u v (fun _ => -1) c x = y at *
    unfold bf_one
    split
    · next h =>
      have h1 := ih _ (hu c (by omega) h.1)
      have h2 := h.2
      try dsimp only at h2
      try dsimp only
      split
      · next e => subst e; omega
      · omega
    · omega
abbrev sp_shortenOnce : dk_M := dk_sp 1 true (fun _ : Unit => [.inr 15]) (fun _ σ => NW σ ∧ bd 20000000 (σ 10) ∧ bd3 1000 (σ 17))
  (fun _ σ r σ' => ∃ f, σ' = dk_up σ 17 f ∧ (fun j => -toI f j) = bf_pass (tB σ) (vC σ) (uC σ) (fun _ => -1) (mC σ) (fun j => -toI (σ 17) j) ∧ ((r = 0 ∧ f = σ 17) ∨ (r = 1 ∧ ¬ f = σ 17)))
set_option maxRecDepth 100000 in
set_option maxHeartbeats 2000000 in
theorem q_shortenOnce : dk_pure (kX0_shortenOnce, fX0, [(63, sp_isTight)], [], [], 3, true) sp_shortenOnce := by
  refine dk_sp_pure (fun _ _ _ => rfl) (fun _ => rfl) ?_
  rintro OK _ σ ⟨hN, hB, hB7⟩ hC
  have hm := hN.m120
  have hn := hN.n30
  have loop : ∀ (d c : Nat) (r : Int32) (f : Nat → Int32), c + d = mC σ → (fun j => -toI f j) = bf_pass (tB σ) (vC σ) (uC σ) (fun _ => -1) c (fun j => -toI (σ 17) j) → ((r = 0 ∧ f = σ 17) ∨ (r = 1 ∧ ∃ j, (f j).toInt < (σ 17 j).toInt)) → OK 4 [(0, .inr 15), (1, .inl r), (2, .inl (nI c))] [] (dk_up σ 17 f) := by
    intro d
    induction d with
    | zero =>
      intro c r f hcd hf hr
      have hcm : c = mC σ := by omega
      refine hC.go (fun q => if q = 4 then some 3 else none) 60 ?_
      refine ⟨fun _ => ⟨?_, f, rfl, by rw [← hcm]; exact hf, ?_⟩, fun h => ?_⟩
      · rcases hr with ⟨h, -⟩ | ⟨h, -⟩
        · exact Or.inl h
        · exact Or.inr h
      · rcases hr with ⟨h1, h2⟩ | ⟨h1, j, h2⟩
        · exact Or.inl ⟨h1, h2⟩
        · exact Or.inr ⟨h1, fun e => by rw [e] at h2; omega⟩
      · exfalso
        apply h
        show σ 1 1 ≤ nI c
        rw [hN.m, hcm]
        exact Int32.le_refl _
    | succ d ih =>
      intro c r f hcd hf hr
      have hcm : c < mC σ := by omega
      have ec : (nI c).toNatClampNeg = c := nI_clamp (by omega)
      have hic : vp_in (nI c) 120 := vp_in_nI (by omega) (by omega)
      obtain ⟨hu1, hu2, hu3⟩ := hN.u hcm
      obtain ⟨hv1, hv2, hv3⟩ := hN.v hcm
      have hbd := bf_pass_b1 (a := tB σ) (u := vC σ) (v := uC σ) (m := mC σ) (fun c hc ht => by have := (tB_uv hN hc ht).2; omega) (x := fun j => -toI (σ 17) j) (B := 1000) (fun j hj => by have := hB7 j hj; unfold toI; omega) c (by omega)
      rw [← hf] at hbd
      have hnext : ∀ r' f', (fun j => -toI f' j) = bf_pass (tB σ) (vC σ) (uC σ) (fun _ => -1) (c + 1) (fun j => -toI (σ 17) j) → ((r' = 0 ∧ f' = σ 17) ∨ (r' = 1 ∧ ∃ j, (f' j).toInt < (σ 17 j).toInt)) → OK 4 [(0, .inr 15), (1, .inl r'), (2, .inl (nI c + 1))] [] (dk_up σ 17 f') := by
        intro r' f' h1 h2
        rw [nI_1]
        exact ih (c + 1) r' f' (by omega) h1 h2
      have hpass : bf_pass (tB σ) (vC σ) (uC σ) (fun _ => -1) (c + 1) (fun j => -toI (σ 17) j) = bf_one (tB σ) (vC σ) (uC σ) (fun _ => -1) (fun j => -toI f j) c := by
        rw [hf]; rfl
      refine hC.go (fun q => if q = 4 then some 3 else none) 60 ?_
      refine ⟨fun h => ?_, fun h => ?_⟩
      · exfalso
        have h : σ 1 1 ≤ nI c := h
        rw [hN.m] at h
        exact nI_ge hcm (by omega) h
      refine dk_cs (nI c) rfl rfl rfl ⟨hN.up (by decide), hB, c, hcm, rfl⟩ (fun rt σ2 hq => ?_)
      obtain ⟨hσ2, hrt⟩ := hq
      rw [hσ2]
      rw [tB_up (by decide), ec] at hrt
      refine ⟨fun h2 => ?_, fun h2 => ?_⟩
      · have h2 : rt = 0 := h2
        refine ⟨by decide, hnext r f ?_ hr⟩
        rw [hpass]
        unfold bf_one
        rw [if_neg]
        intro q
        rw [hrt, if_pos q.1] at h2
        exact absurd h2 i32_ne10
      · have h2 : ¬ rt = 0 := h2
        have ht : tB σ c = true := by
          apply Classical.byContradiction
          intro q
          rw [hrt, if_neg q] at h2
          exact h2 rfl
        obtain ⟨hun, hvn⟩ := tB_uv hN hcm ht
        have hiu : vp_in (σ 3 (nI c).toNatClampNeg) 30 := by rw [ec, hu1]; exact vp_in_nI (by omega) (by omega)
        have hiv : vp_in (σ 4 (nI c).toNatClampNeg) 30 := by rw [ec, hv1]; exact vp_in_nI (by omega) (by omega)
        have hbv := hbd _ (show vC σ c < 30 by omega)
        try dsimp only at hbv
        unfold toI at hbv
        have hadd : (f (vC σ c) + 1).toInt = (f (vC σ c)).toInt + 1 := by
          have e1 : (1 : Int32).toInt = 1 := rfl
          have := dk_add (x := f (vC σ c)) (y := 1) (by omega) (by omega)
          rw [this, e1]
        refine ⟨120, rfl, hic, 30, rfl, hiu, 120, rfl, hic, 30, rfl, hiv, fun h3 => ?_, fun h3 => ⟨120, rfl, hic, 120, rfl, hic, 30, rfl, hiv, 30, rfl, hiu, by decide, by decide, ?_⟩⟩
        · have h3 : f (σ 3 (nI c).toNatClampNeg).toNatClampNeg ≤ f (σ 4 (nI c).toNatClampNeg).toNatClampNeg + 1 := h3
          rw [ec] at h3
          have h3 : f (uC σ c) ≤ f (vC σ c) + 1 := h3
          rw [dk_le, hadd] at h3
          refine ⟨by decide, hnext r f ?_ hr⟩
          rw [hpass]
          unfold bf_one
          rw [if_neg]
          rintro ⟨-, q⟩
          unfold toI at q
          try dsimp only at q
          omega
        · have h3 : ¬ f (σ 3 (nI c).toNatClampNeg).toNatClampNeg ≤ f (σ 4 (nI c).toNatClampNeg).toNatClampNeg + 1 := h3
          rw [ec] at h3
          have h3 : ¬ f (uC σ c) ≤ f (vC σ c) + 1 := h3
          rw [dk_le, hadd] at h3
          show OK 4 [(0, .inr 15), (1, .inl 1), (2, .inl (nI c + 1))] [] (dk_up (dk_up σ 17 f) 17 (upd f (σ 3 (nI c).toNatClampNeg).toNatClampNeg (f (σ 4 (nI c).toNatClampNeg).toNatClampNeg + 1)))
          rw [dk_up_up, ec]
          refine hnext 1 (upd f (uC σ c) (f (vC σ c) + 1)) ?_ (Or.inr ⟨rfl, uC σ c, ?_⟩)
          · rw [hpass]
            unfold bf_one
            rw [if_pos ⟨ht, by unfold toI; try dsimp only
                               omega⟩]
            funext j
            unfold toI upd
            try dsimp only
            split
            · rw [hadd]; omega
            · rfl
          · have hge := bf_pass_ge (a := tB σ) (u := vC σ) (v := uC σ) (g := fun _ => -1) (fun j => -toI (σ 17) j) c (uC σ c)
            rw [← hf] at hge
            unfold toI at hge
            try dsimp only at hge
            have e1 : upd f (uC σ c) (f (vC σ c) + 1) (uC σ c) = f (vC σ c) + 1 := by simp [upd]
            rw [e1, hadd]
            omega
  refine hC.go (fun q => if q = 4 then some 3 else none) 60 ?_
  refine ⟨by decide, by decide, ?_⟩
  have := loop (mC σ) 0 0 (σ 17) (by omega) rfl (Or.inl ⟨rfl, rfl⟩)
  rw [dk_up_id] at this
  exact this
/-- what a task's row is begun with -/
def w0 (σ : dk_S) : Nat → Int := fun t => if t < nC σ then (if toI (σ 10) t + dC σ t = (σ 9 2).toInt then 1 else 31) else toI (σ 17) t
abbrev sp_chainMeasure : dk_M := dk_sp 1 false (fun _ : Unit => [.inr 15]) (fun _ σ => NW σ ∧ bd 20000000 (σ 10) ∧ bd3 1000 (σ 17))
  (fun _ σ _ σ' => ∃ f, σ' = dk_up σ 17 f ∧ bd3 1000 f ∧ bf_ls (tB σ) (vC σ) (uC σ) (fun _ => -1) (mC σ) (fun j => -w0 σ j) (fun j => -toI f j))
set_option maxRecDepth 100000 in
set_option maxHeartbeats 2000000 in
theorem q_chainMeasure : dk_pure (kX0_measure, fX0, [(56, sp_shortenOnce)], [], [], 3, false) sp_chainMeasure := by
  refine dk_sp_pure (fun _ _ _ => rfl) (fun _ => rfl) ?_
  rintro OK _ σ ⟨hN, hB, hB7⟩ hC
  have hm := hN.m120
  have hn := hN.n30
  have hw1 : ∀ j, j < 30 → -1000 ≤ w0 σ j ∧ w0 σ j ≤ 1000 := by
    intro j hj
    have := hB7 j hj
    unfold w0 toI
    split
    · split <;> omega
    · omega
  have hNN : ∀ c, c < mC σ → tB σ c = true → vC σ c < 30 ∧ uC σ c < 30 := fun c hc ht => by
    have := tB_uv hN hc ht
    omega
  have hconv : bf_sol (tB σ) (vC σ) (uC σ) (fun _ => -1) (mC σ) (bf_iter (tB σ) (vC σ) (uC σ) (fun _ => -1) (mC σ) 30 (fun j => -w0 σ j)) := by
    refine bf_conv hNN ⟨fun j => if j < 30 then 1000 else -w0 σ j, fun c hc ht => ?_, fun j => ?_⟩
    · obtain ⟨q1, q2⟩ := hNN c hc ht
      dsimp only
      rw [if_pos q1, if_pos q2]
      omega
    · dsimp only
      split
      · next q => have := hw1 j q; omega
      · exact Int.le_refl _
  have hbd : ∀ k : Nat, ∀ j, j < 30 → -1000 ≤ bf_iter (tB σ) (vC σ) (uC σ) (fun _ => -1) (mC σ) k (fun j => -w0 σ j) j ∧ bf_iter (tB σ) (vC σ) (uC σ) (fun _ => -1) (mC σ) k (fun j => -w0 σ j) j ≤ 1000 := by
    intro k
    induction k with
    | zero => intro j hj; have := hw1 j hj; simp only [bf_iter]; omega
    | succ k ih => exact bf_pass_b1 (fun c hc ht => (hNN c hc ht).1) ih (mC σ) (Nat.le_refl _)
  have loop2 : ∀ (d k : Nat) (r : Int32) (f : Nat → Int32), k + d = 30 → (fun j => -toI f j) = bf_iter (tB σ) (vC σ) (uC σ) (fun _ => -1) (mC σ) k (fun j => -w0 σ j) → ((r = 0 ∧ bf_sol (tB σ) (vC σ) (uC σ) (fun _ => -1) (mC σ) (fun j => -toI f j)) ∨ r = 1) → OK 74 [(0, .inr 15), (1, .inl r), (2, .inl (nI k))] [] (dk_up σ 17 f) := by
    intro d
    induction d with
    | zero =>
      intro k r f hk hf hr
      have hk : k = 30 := by omega
      subst hk
      refine hC.go (fun q => if q = 74 then some 3 else none) 60 ?_
      refine ⟨fun h => ⟨f, rfl, fun j hj => ?_, ?_⟩, fun h => ?_⟩
      · have := hbd 30 j hj
        rw [← hf] at this
        unfold toI at this
        try dsimp only at this
        omega
      · rw [hf]
        exact bf_iter_ls hconv
      · exact absurd (show (30 : Int32) ≤ nI 30 by decide) h
    | succ d ih =>
      intro k r f hk hf hr
      have hbf : bd3 1000 f := fun j hj => by
        have := hbd k j hj
        rw [← hf] at this
        unfold toI at this
        try dsimp only at this
        omega
      refine hC.go (fun q => if q = 74 then some 3 else none) 60 ?_
      refine ⟨fun h => ?_, fun h => ⟨fun h2 => ?_, fun h2 => ?_⟩⟩
      · exfalso
        have h : nI 30 ≤ nI k := h
        rw [nI_leI (by omega) (by omega)] at h
        omega
      · have h2 : r = 0 := h2
        rcases hr with ⟨-, hr⟩ | hr
        · refine ⟨f, rfl, hbf, ?_⟩
          rw [hf] at hr ⊢
          exact bf_iter_ls hr
        · rw [hr] at h2; exact absurd h2 i32_ne10
      · refine dk_cs () rfl rfl rfl ⟨hN.up (by decide), hB, hbf⟩ (fun r' σ' hq => ?_)
        obtain ⟨f', hσ', hf', hr'⟩ := hq
        rw [hσ', dk_up_up]
        rw [tB_up (by decide), uC_up (by decide), vC_up (by decide), mC_up (by decide), dk_up_self, hf] at hf'
        rw [dk_up_self] at hr'
        refine ⟨by decide, by decide, ?_⟩
        have := ih (k + 1) r' f' (by omega) hf' ?_
        · rw [← nI_1] at this
          exact this
        · rcases hr' with ⟨h3, h4⟩ | ⟨h3, -⟩
          · left
            refine ⟨h3, ?_⟩
            subst h4
            exact bf_stable (by rw [hf]; exact hf'.symm.trans hf)
          · exact Or.inr h3
  have fin : ∀ (f : Nat → Int32), toI f = w0 σ → OK 74 [(0, .inr 15), (1, .inl 1), (2, .inl (nI 0))] [] (dk_up σ 17 f) := fun f hf => loop2 30 0 1 f (by omega) (by rw [hf]; rfl) (Or.inr rfl)
  have loop1 : ∀ (d t : Nat) (x2 : dk_L) (f : Nat → Int32), t + d = nC σ → (∀ j, j < t → toI f j = w0 σ j) → (∀ j, ¬ j < t → f j = σ 17 j) → OK 2 [(0, .inr 15), (1, .inl (nI t))] [] (dk_up σ 17 f) := by
    intro d
    induction d with
    | zero =>
      intro t x2 f ht h1 h2
      refine hC.go (fun q => if q = 74 then some 3 else none) 60 ?_
      refine ⟨fun _ => ⟨by decide, by decide, ?_⟩, fun h => ?_⟩
      · refine fin f ?_
        funext j
        by_cases e : j < t
        · exact h1 j e
        · unfold w0
          rw [if_neg (by omega)]
          unfold toI
          rw [h2 j e]
      · exfalso
        apply h
        show σ 1 0 ≤ nI t
        rw [hN.n, show t = nC σ by omega]
        exact Int32.le_refl _
    | succ d ih =>
      intro t x2 f ht h1 h2
      have et : (nI t).toNatClampNeg = t := nI_clamp (by omega)
      have hit : vp_in (nI t) 30 := vp_in_nI (by omega) (by omega)
      have hdt := hN.d (show t < nC σ by omega)
      have hbt := hB t (by omega)
      have hadd : (σ 10 t + σ 2 t).toInt = toI (σ 10) t + dC σ t := dk_add (by unfold dC at hdt; omega) (by unfold dC at hdt; omega)
      have hnext : ∀ v : Int32, v.toInt = w0 σ t → OK 2 [(0, .inr 15), (1, .inl (nI t + 1))] [] (dk_up (dk_up σ 17 f) 17 (upd f (nI t).toNatClampNeg v)) := by
        intro v hv
        rw [dk_up_up, et, nI_1]
        refine ih (t + 1) [] (upd f t v) (by omega) (fun j hj => ?_) (fun j hj => ?_)
        · unfold toI upd
          by_cases e : j = t
          · rw [if_pos e, e]; exact hv
          · rw [if_neg e]; exact h1 j (by omega)
        · unfold upd
          rw [if_neg (by omega)]
          exact h2 j (by omega)
      refine hC.go (fun q => if q = 2 then some 2 else none) 60 ?_
      refine ⟨fun h => ?_, fun h => ⟨31, rfl, vp_in_nI (by omega) (by omega), 30, rfl, hit, fun h3 => ⟨by decide, fun h4 => ⟨30, rfl, hit, by decide, hnext 31 ?_⟩, fun h4 => absurd rfl h4⟩, fun h3 => ⟨by decide, fun h4 => absurd h4 i32_ne10, fun h4 => ⟨30, rfl, hit, by decide, hnext 1 ?_⟩⟩⟩⟩
      · exfalso
        have h : σ 1 0 ≤ nI t := h
        rw [hN.n] at h
        exact nI_ge (by omega) (by omega) h
      · have h3 : ¬ σ 10 (nI t).toNatClampNeg + σ 2 (nI t).toNatClampNeg = σ 9 2 := h3
        rw [et, dk_eq, hadd] at h3
        unfold w0
        rw [if_pos (by omega), if_neg h3]
        rfl
      · have h3 : ¬ ¬ σ 10 (nI t).toNatClampNeg + σ 2 (nI t).toNatClampNeg = σ 9 2 := h3
        rw [et, dk_eq, hadd] at h3
        unfold w0
        rw [if_pos (by omega), if_pos (Classical.not_not.mp h3)]
        rfl
  refine hC.go (fun q => if q = 2 then some 2 else none) 60 ?_
  refine ⟨by decide, ?_⟩
  have := loop1 (nC σ) 0 [] (σ 17) (by omega) (fun j hj => by omega) (fun j _ => rfl)
  rw [dk_up_id] at this
  exact this
