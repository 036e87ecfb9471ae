/-! questions of both -/
theorem Rel.etf {σ : dk_S} (h : Rel σ) : tf (σ 0 8) (σ 0 7) ↔ tfM (σ 30 20) (σ 30 19) := by
  obtain ⟨-, -, ⟨h19, hfr, -⟩, -⟩ := h
  rw [h19]
  rcases hfr with ⟨h1, h2⟩ | ⟨h1, h2⟩
  · rw [h1, h2]
    exact ⟨fun q => absurd rfl q.1, fun q => absurd q.1 i32_ne10⟩
  · rw [h1, h2]
    exact ⟨fun q => ⟨rfl, q.2⟩, fun q => ⟨i32_ne10, q.2⟩⟩
theorem Rel.frs {σ : dk_S} (h : Rel σ) (hf : tf (σ 0 8) (σ 0 7)) : ES (aC σ) (uC σ) (vC σ) (gC σ) (mC σ) (toI (σ 10)) ∧ (σ 9 2).toInt = pl_len (dC σ) (toI (σ 10)) (nC σ) ∧ σ 30 23 = σ 9 2 ∧ (∀ t, t < nC σ → σ 43 t = σ 10 t ∧ σ 44 t = σ 11 t) := by
  have hn30 := h.1.1.1.n30
  have hn := h.1.1.1.n
  obtain ⟨-, -, ⟨h19, hfr, hF, hK, -⟩, -⟩ := h
  obtain ⟨f1, f2, f3⟩ := hF hf
  obtain ⟨k, k1, k2, k3, k4, k5⟩ := hK hf.2
  rw [f1, hn, nI_eq (by omega) (by omega)] at k2
  rw [← k2] at k5
  exact ⟨f2, f3, k4, k5⟩
theorem Rel.exv {σ : dk_S} (h : Rel σ) (hf : tf (σ 0 8) (σ 0 7)) {j : Nat} (hj : Pl (nC σ) j) : xv (nC σ) (σ 43) j = toI (σ 10) j := by
  obtain ⟨h1, -, -, h4⟩ := h.frs hf
  have hn30 := h.1.1.1.n30
  unfold xv
  rcases hj with hj | hj
  · rw [if_pos hj, (h4 j hj).1]
    rfl
  · rw [hj, if_neg (by omega), h1.2.2.1]
theorem Rel.hPI {σ : dk_S} (h : Rel σ) : PI σ := ⟨h.1.1.1, h.2.2.2.1.1, h.2.2.1.2.2.1⟩
theorem Rel.hKB {σ : dk_S} (h : Rel σ) : KB σ := by
  intro hf
  have hf := h.etf.mpr hf
  obtain ⟨h1, h2, h3, h4⟩ := h.frs hf
  have hn30 := h.1.1.1.n30
  have hb := h.2.2.2.1.1
  have pos : ∀ t, t < nC σ → 0 ≤ (σ 10 t).toInt ∧ (σ 10 t).toInt ≤ 4000000 := fun t ht => ⟨h1.2.1 t (by omega), (hb t (by omega)).2⟩
  have hl := pl_len_le (d := dC σ) (x := toI (σ 10)) (B := 4001000) (by decide) (n := nC σ) (fun t ht => by
    have q1 := (pos t ht).2
    have q2 := h.1.1.1.d ht
    show (σ 10 t).toInt + dC σ t ≤ 4001000
    omega)
  rw [← h2] at hl
  refine ⟨fun t ht => by rw [(h4 t ht).1]; exact pos t ht, by rw [h3]; exact hl.1, by rw [h3]; exact hl.2, fun t ht => ?_⟩
  rw [(h4 t ht).1, h3, h2]
  exact pl_len_ge (dC σ) (toI (σ 10)) ht
theorem Rel.itask {σ : dk_S} (h : Rel σ) (t : Int32) : (0 ≤ t ∧ t ≤ σ 30 0 - 1) ↔ (0 ≤ t ∧ t < σ 1 0) := by
  have hn30 := h.1.1.1.n30
  rw [ht_iff h.1.1.1, h.1.1.2.1, in_task (by omega)]
theorem Rel.iworker {σ : dk_S} (h : Rel σ) (t : Int32) : (0 ≤ t ∧ t ≤ σ 30 2 - 1) ↔ (0 ≤ t ∧ t < σ 7 0) := by
  obtain ⟨e, hw⟩ := h.2.1.1.w
  rw [h.2.1.2.2.1, e, in_task (by omega)]
  constructor
  · rintro ⟨k, hk, rfl⟩
    exact ⟨(nI_leI (a := 0) (by omega) (by omega)).mpr (Nat.zero_le _), i32_nle.mp (fun q => by rw [nI_leI (by omega) (by omega)] at q; omega)⟩
  · rintro ⟨h1, h2⟩
    obtain ⟨j, hj, rfl⟩ := nI_of (i32_nlt.mpr h1)
    have h2 := i32_nle.mpr h2
    rw [nI_leI (by omega) hj] at h2
    exact ⟨j, by omega, rfl⟩
theorem Rel.ern {σ : dk_S} (h : Rel σ) (hf : tf (σ 0 8) (σ 0 7)) (s : Int) {i : Nat} (hi : i < nC σ) : rn (xv (nC σ) (σ 43)) (dC σ) s i = rn (toI (σ 10)) (dC σ) s i := by
  unfold rn
  rw [h.exv hf (Or.inl hi)]
theorem Rel.erc {σ : dk_S} (h : Rel σ) (hf : tf (σ 0 8) (σ 0 7)) (s : Int) : rcM σ s = rc σ s := cn_congr (fun _ hi => h.ern hf s hi)
