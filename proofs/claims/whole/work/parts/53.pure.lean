/-! no circle of 31 edges or fewer: there are starts -/
section PU
variable {ne : Nat} {A : Nat → Bool} {F T : Nat → Nat} {G : Nat → Int}
def vld (ne : Nat) (A : Nat → Bool) (F T : Nat → Nat) (p : Nat) (ε : Nat → Nat) (j : Nat) : Prop := ∀ i, i < j → ε i < ne ∧ A (ε i) = true ∧ F (ε i) = psn T p ε i
theorem ws_seq : ∀ {j p q : Nat} {s : Int}, ws ne A F T G j p q s → ∃ ε, vld ne A F T p ε j ∧ psn T p ε j = q ∧ smn G ε j = s := by
  intro j
  induction j with
  | zero =>
    rintro p q s ⟨h1, h2⟩
    exact ⟨fun _ => 0, fun i hi => by omega, h1, h2.symm⟩
  | succ j ih =>
    rintro p q s ⟨e, h1, h2, h3, s', h4, h5⟩
    obtain ⟨δ, d1, d2, d3⟩ := ih h4
    obtain ⟨ε, hε⟩ : ∃ ε : Nat → Nat, ε = fun i => if i = 0 then e else δ (i - 1) := ⟨_, rfl⟩
    have e0 : ε 0 = e := by rw [hε]; rfl
    have es : ∀ i, ε (i + 1) = δ i := fun i => by rw [hε]; simp
    have ep : ∀ i, psn T p ε (i + 1) = psn T (T e) δ i := fun i => by
      cases i with
      | zero => show T (ε 0) = T e; rw [e0]
      | succ i => show T (ε (i + 1)) = T (δ i); rw [es]
    have em : ∀ i, smn G ε (i + 1) = G e + smn G δ i := by
      intro i
      induction i with
      | zero => show smn G ε 0 + G (ε 0) = G e + 0; rw [e0]; show (0 : Int) + G e = _; omega
      | succ i ihi =>
        show smn G ε (i + 1) + G (ε (i + 1)) = G e + (smn G δ i + G (δ i))
        rw [ihi, es]; omega
    refine ⟨ε, fun i hi => ?_, by rw [ep]; exact d2, by rw [em, d3, h5]⟩
    cases i with
    | zero => rw [e0]; exact ⟨h1, h2, h3⟩
    | succ i => rw [es, ep]; exact d1 i (by omega)
theorem ws_seg {p j : Nat} {ε : Nat → Nat} (h : vld ne A F T p ε j) : ∀ d a : Nat, a + d ≤ j → ws ne A F T G d (psn T p ε a) (psn T p ε (a + d)) (smn G ε (a + d) - smn G ε a) := by
  intro d
  induction d with
  | zero => intro a _; exact ⟨rfl, by show smn G ε a - smn G ε a = 0; omega⟩
  | succ d ih =>
    intro a ha
    have h1 := ih (a + 1) (by omega)
    obtain ⟨v1, v2, v3⟩ := h a (by omega)
    have e1 : psn T p ε (a + 1) = T (ε a) := rfl
    have e2 : smn G ε (a + 1) = smn G ε a + G (ε a) := rfl
    rw [e1, show a + 1 + d = a + (d + 1) by omega] at h1
    exact ⟨ε a, v1, v2, v3, _, h1, by rw [e2]; omega⟩
theorem ws_app : ∀ {j k p q r : Nat} {s s' : Int}, ws ne A F T G j p q s → ws ne A F T G k q r s' → ws ne A F T G (j + k) p r (s + s') := by
  intro j
  induction j with
  | zero =>
    rintro k p q r s s' ⟨h1, h2⟩ h
    subst h1
    rw [h2, Nat.zero_add, Int.zero_add]
    exact h
  | succ j ih =>
    rintro k p q r s s' ⟨e, h1, h2, h3, s1, h4, h5⟩ h
    rw [show j + 1 + k = (j + k) + 1 by omega]
    exact ⟨e, h1, h2, h3, s1 + s', ih h4 h, by omega⟩
theorem pigeon {f : Nat → Nat} (h : ∀ i, i < 32 → f i < 31) : ∃ i i', i < i' ∧ i' < 32 ∧ f i = f i' := by
  apply Classical.byContradiction
  intro hn
  have h2 : ∀ n, cp (fun _ => True) n = n := by
    intro n
    induction n with
    | zero => rfl
    | succ n ih => rw [cp_succ_pos trivial, ih]
  have h1 : cp (fun _ => True) 32 ≤ cp (fun _ => True) 31 := cp_inj (f := f) (fun i hi _ => ⟨h i hi, trivial⟩) (fun i j hi hj _ _ e => by
    rcases Nat.lt_trichotomy i j with c | c | c
    · exact absurd ⟨i, j, c, hj, e⟩ hn
    · exact c
    · exact absurd ⟨j, i, c, hi, e.symm⟩ hn)
  rw [h2, h2] at h1
  omega
theorem ws_short (hT : ∀ e, e < ne → A e = true → T e < 31) (hno : ∀ j p, 1 ≤ j → j ≤ 31 → ¬ PC ne A F T G j p) {p q : Nat} (hp : p < 31) {s : Int} (h : ws ne A F T G 31 p q s) : ∃ j s', j ≤ 30 ∧ s ≤ s' ∧ ws ne A F T G j p q s' := by
  obtain ⟨ε, v, e1, e2⟩ := ws_seq h
  obtain ⟨i, i', h1, h2, h3⟩ := pigeon (f := psn T p ε) (fun i hi => by
    cases i with
    | zero => exact hp
    | succ i => exact hT _ (v i (by omega)).1 (v i (by omega)).2.1)
  have s1 := ws_seg (G := G) v (i' - i) i (by omega)
  rw [show i + (i' - i) = i' by omega, ← h3] at s1
  have s2 := ws_seg (G := G) v i 0 (by omega)
  rw [Nat.zero_add] at s2
  have s3 := ws_seg (G := G) v (31 - i') i' (by omega)
  rw [show i' + (31 - i') = 31 by omega, e1, e2, ← h3] at s3
  have hle : smn G ε i' - smn G ε i ≤ 0 := by
    apply Classical.byContradiction
    intro c
    exact hno (i' - i) (psn T p ε i) (by omega) (by omega) ⟨_, by omega, s1⟩
  have e0 : smn G ε 0 = 0 := rfl
  exact ⟨i + (31 - i'), _, by omega, by rw [e0]; omega, ws_app s2 s3⟩
end PU
theorem noc_FE {σ : dk_S} (hN : NW σ) (h : noc σ) : FE (aC σ) (uC σ) (vC σ) (gC σ) (mC σ) := by
  have hno : ∀ j p, 1 ≤ j → j ≤ 31 → ¬ PCC σ j p := fun j p h1 h2 hp => by
    obtain ⟨e, he, -⟩ := (PC_gk h1).mp hp
    exact h j h1 h2 e he
  have hT : ∀ e, e < nE σ → eA σ e = true → eT σ e < 31 := fun e he _ => (eT_lt hN he).1
  have hn30 := hN.n30
  obtain ⟨S, hS⟩ : ∃ S : Nat → Int → Prop, S = fun p s => ∃ j, j ≤ 30 ∧ wsC σ j 30 p s := ⟨_, rfl⟩
  have hSb : ∀ p s, S p s → s ≤ 30000 := fun p s hs => by
    rw [hS] at hs
    obtain ⟨j, hj, hw⟩ := hs
    have := (ws_bd (eG_bd hN) hw).2
    omega
  have hex : ∀ p, ∃ v, (∃ s, S p s) → S p v ∧ ∀ s, S p s → s ≤ v := by
    intro p
    by_cases c : ∃ s, S p s
    · obtain ⟨s0, hs0⟩ := c
      obtain ⟨v, hv1, hv2⟩ := ex_min (S p) (fun s => (30000 - s).toNat) _ s0 hs0 rfl
      refine ⟨v, fun _ => ⟨hv1, fun s hs => ?_⟩⟩
      have h1 := hv2 s hs
      have h2 := hSb p s hs
      have h3 := hSb p v hv1
      try dsimp only at h1
      omega
    · exact ⟨0, fun q => absurd q c⟩
  obtain ⟨x, hx⟩ := Classical.axiomOfChoice hex
  have r30 : S 30 0 := by rw [hS]; exact ⟨0, by omega, rfl, rfl⟩
  have rt : ∀ t, t < nC σ → S t 0 := fun t ht => by
    rw [hS]
    refine ⟨1, by omega, mC σ + t, by show mC σ + t < mC σ + nC σ; omega, ?_, ?_, 0, ⟨?_, rfl⟩, ?_⟩
    · unfold eA; rw [if_neg (by omega)]
    · unfold eF; rw [if_neg (by omega)]
    · unfold eT; rw [if_neg (by omega)]; omega
    · unfold eG; rw [if_neg (by omega)]; rfl
  have rp : ∀ p, Pl (nC σ) p → ∃ s, S p s := fun p hp => by
    rcases hp with hp | hp
    · exact ⟨0, rt p hp⟩
    · rw [hp]; exact ⟨0, r30⟩
  have x30 : x 30 = 0 := by
    have h1 := hx 30 ⟨0, r30⟩
    have h2 := h1.2 0 r30
    have h3 := h1.1
    rw [hS] at h3
    obtain ⟨j, hj, hw⟩ := h3
    apply Classical.byContradiction
    intro c
    by_cases e : j = 0
    · subst e; exact c hw.2
    · exact hno j 30 (by omega) (by omega) ⟨x 30, by omega, hw⟩
  refine ⟨fun j => if j < nC σ ∨ j = 30 then x j else 0, fun c hc ha => ?_, fun j _ => ?_, ?_⟩
  · have hu := (hN.u hc).2.1
    have hv := (hN.v hc).2.1
    try dsimp only
    rw [if_pos hu, if_pos hv]
    have h1 := (hx (uC σ c) (rp _ hu)).1
    have h2 := (hx (vC σ c) (rp _ hv)).2
    rw [hS] at h1
    obtain ⟨j, hj, hw⟩ := h1
    have hc' : c < nE σ := by unfold nE; omega
    have hedge : wsC σ 1 (uC σ c) (vC σ c) (gC σ c) := by
      refine ⟨c, hc', ?_, ?_, 0, ⟨?_, rfl⟩, ?_⟩
      · unfold eA; rw [if_pos hc]; exact ha
      · unfold eF; rw [if_pos hc]
      · unfold eT; rw [if_pos hc]
      · unfold eG; rw [if_pos hc]; omega
    have happ := ws_app hw hedge
    by_cases e : j + 1 ≤ 30
    · exact h2 _ (by rw [hS]; exact ⟨j + 1, e, happ⟩)
    · have : j + 1 = 31 := by omega
      rw [this] at happ
      obtain ⟨j', s', q1, q2, q3⟩ := ws_short hT hno (by omega) happ
      have := h2 s' (by rw [hS]; exact ⟨j', q1, q3⟩)
      omega
  · try dsimp only
    by_cases c : j < nC σ ∨ j = 30
    · rw [if_pos c]
      rcases c with c | c
      · exact (hx j ⟨0, rt j c⟩).2 0 (rt j c)
      · rw [c, x30]; exact Int.le_refl _
    · rw [if_neg c]; exact Int.le_refl _
  · show (if 30 < nC σ ∨ 30 = 30 then x 30 else 0) = 0
    rw [if_pos (Or.inr rfl), x30]
