/-! matchings: sizes, covers -/
noncomputable def cp (P : Nat → Prop) (n : Nat) : Nat := cn (fun i => @decide (P i) (Classical.propDecidable (P i))) n
theorem cp_dec (P : Prop) : (@decide P (Classical.propDecidable P) = true) ↔ P := @decide_eq_true_iff P (Classical.propDecidable P)
theorem cp_mono {P Q : Nat → Prop} {n : Nat} (h : ∀ i, i < n → P i → Q i) : cp P n ≤ cp Q n :=
  cn_mono (fun i hi hp => (cp_dec _).mpr (h i hi ((cp_dec _).mp hp)))
theorem cp_congr {P Q : Nat → Prop} {n : Nat} (h : ∀ i, i < n → (P i ↔ Q i)) : cp P n = cp Q n :=
  Nat.le_antisymm (cp_mono (fun i hi => (h i hi).mp)) (cp_mono (fun i hi => (h i hi).mpr))
theorem cp_le (P : Nat → Prop) (n : Nat) : cp P n ≤ n := cn_le _ _
theorem cp_zero (P : Nat → Prop) : cp P 0 = 0 := rfl
theorem cp_succ_pos {P : Nat → Prop} {n : Nat} (h : P n) : cp P (n + 1) = cp P n + 1 := by
  unfold cp
  simp only [cn]
  rw [if_pos ((cp_dec _).mpr h)]
theorem cp_succ_neg {P : Nat → Prop} {n : Nat} (h : ¬ P n) : cp P (n + 1) = cp P n := by
  unfold cp
  simp only [cn]
  rw [if_neg (fun q => h ((cp_dec _).mp q))]
  rfl
theorem cp_split {P Q : Nat → Prop} : ∀ n : Nat, cp P n = cp (fun i => P i ∧ Q i) n + cp (fun i => P i ∧ ¬ Q i) n := by
  intro n
  induction n with
  | zero => rfl
  | succ n ih =>
    by_cases hP : P n
    · by_cases hQ : Q n
      · rw [cp_succ_pos hP, cp_succ_pos (P := fun i => P i ∧ Q i) ⟨hP, hQ⟩, cp_succ_neg (P := fun i => P i ∧ ¬ Q i) (fun q => q.2 hQ)]; omega
      · rw [cp_succ_pos hP, cp_succ_neg (P := fun i => P i ∧ Q i) (fun q => hQ q.2), cp_succ_pos (P := fun i => P i ∧ ¬ Q i) ⟨hP, hQ⟩]; omega
    · rw [cp_succ_neg hP, cp_succ_neg (P := fun i => P i ∧ Q i) (fun q => hP q.1), cp_succ_neg (P := fun i => P i ∧ ¬ Q i) (fun q => hP q.1)]; omega
theorem cp_none {P : Nat → Prop} {n : Nat} (h : ∀ i, i < n → ¬ P i) : cp P n = 0 := by
  have : cp P n = cp (fun _ => False) n := cp_congr (fun i hi => ⟨fun q => absurd q (h i hi), fun q => q.elim⟩)
  rw [this]
  induction n with
  | zero => rfl
  | succ n ih => rw [cp_succ_neg (fun q => q)]; exact ih (fun i hi => h i (by omega)) (cp_congr (fun i hi => ⟨fun q => absurd q (h i (by omega)), fun q => q.elim⟩))
theorem cp_remove {Q : Nat → Prop} {k : Nat} : ∀ {m : Nat}, k < m → Q k → cp (fun i => Q i ∧ ¬ i = k) m + 1 = cp Q m := by
  intro m
  induction m with
  | zero => intro h; omega
  | succ m ih =>
    intro hk hQ
    by_cases e : k = m
    · subst e
      rw [cp_succ_pos hQ, cp_succ_neg (P := fun i => Q i ∧ ¬ i = k) (fun q => q.2 rfl)]
      congr 1
      exact cp_congr (fun i hi => ⟨fun q => q.1, fun q => ⟨q, by omega⟩⟩)
    · have h1 := ih (by omega) hQ
      by_cases hm : Q m
      · rw [cp_succ_pos hm, cp_succ_pos (P := fun i => Q i ∧ ¬ i = k) ⟨hm, fun q => e q.symm⟩]; omega
      · rw [cp_succ_neg hm, cp_succ_neg (P := fun i => Q i ∧ ¬ i = k) (fun q => hm q.1)]; exact h1
/-- counted by an injection -/
theorem cp_inj {m : Nat} {f : Nat → Nat} : ∀ {n : Nat} {P Q : Nat → Prop}, (∀ i, i < n → P i → f i < m ∧ Q (f i)) → (∀ i j, i < n → j < n → P i → P j → f i = f j → i = j) → cp P n ≤ cp Q m := by
  intro n
  induction n with
  | zero => intro P Q _ _; exact Nat.zero_le _
  | succ n ih =>
    intro P Q h1 h2
    by_cases hP : P n
    · obtain ⟨a, b⟩ := h1 n (by omega) hP
      rw [cp_succ_pos hP, ← cp_remove a b]
      have := ih (P := P) (Q := fun i => Q i ∧ ¬ i = f n) (fun i hi hp => ?_) (fun i j hi hj => h2 i j (by omega) (by omega))
      · omega
      · obtain ⟨c, d⟩ := h1 i (by omega) hp
        exact ⟨c, d, fun e => by have := h2 i n (by omega) (by omega) hp hP e; omega⟩
    · rw [cp_succ_neg hP]
      exact ih (fun i hi => h1 i (by omega)) (fun i j hi hj => h2 i j (by omega) (by omega))
/-- tasks below 30 to workers below 16; 16 and more: none -/
def isM (adj : Nat → Nat → Prop) (S W : Nat → Prop) (M : Nat → Nat) : Prop := (∀ t, t < 30 → M t < 16 → S t ∧ W (M t) ∧ adj t (M t)) ∧ ∀ t t', t < 30 → t' < 30 → M t < 16 → M t = M t' → t = t'
noncomputable def szM (M : Nat → Nat) : Nat := cp (fun t => M t < 16) 30
def nu (adj : Nat → Nat → Prop) (S W : Nat → Prop) (k : Nat) : Prop := (∃ M, isM adj S W M ∧ szM M = k) ∧ ∀ M, isM adj S W M → szM M ≤ k
theorem nu.unique {adj : Nat → Nat → Prop} {S W : Nat → Prop} {k k' : Nat} (h : nu adj S W k) (h' : nu adj S W k') : k = k' := by
  obtain ⟨⟨M, h1, h2⟩, h3⟩ := h
  obtain ⟨⟨M', h1', h2'⟩, h3'⟩ := h'
  have := h3 M' h1'
  have := h3' M h1
  omega
theorem isM.mono {adj : Nat → Nat → Prop} {S S' W W' : Nat → Prop} {M : Nat → Nat} (h : isM adj S W M) (hS : ∀ t, t < 30 → S t → S' t) (hW : ∀ w, w < 16 → W w → W' w) : isM adj S' W' M :=
  ⟨fun t ht hm => ⟨hS t ht (h.1 t ht hm).1, hW _ hm (h.1 t ht hm).2.1, (h.1 t ht hm).2.2⟩, h.2⟩
theorem cover_bd {adj : Nat → Nat → Prop} {S W CT CW : Nat → Prop} {M : Nat → Nat} (h : isM adj S W M) (hc : ∀ t, t < 30 → S t → ∀ w, w < 16 → W w → adj t w → CT t ∨ CW w) : szM M ≤ cp (fun t => S t ∧ CT t) 30 + cp CW 16 := by
  have e := cp_split (P := fun t => M t < 16) (Q := CT) 30
  have h1 : cp (fun t => M t < 16 ∧ CT t) 30 ≤ cp (fun t => S t ∧ CT t) 30 := cp_mono (fun t ht q => ⟨(h.1 t ht q.1).1, q.2⟩)
  have h2 : cp (fun t => M t < 16 ∧ ¬ CT t) 30 ≤ cp CW 16 := by
    refine cp_inj (f := M) (fun t ht q => ⟨q.1, ?_⟩) (fun i j hi hj qi _ e => h.2 i j hi hj qi.1 e)
    obtain ⟨a, b, c⟩ := h.1 t ht q.1
    exact (hc t ht a _ q.1 b c).resolve_left q.2
  unfold szM
  omega
/-- a search that came to no idle worker: no matching is larger -/
theorem bfs_fail {adj : Nat → Nat → Prop} {U W Z X : Nat → Prop} {M : Nat → Nat} (hinj : ∀ t t', t < 30 → t' < 30 → M t < 16 → M t = M t' → t = t') (h1 : ∀ t, t < 30 → U t → ¬ Z t → M t < 16) (h2 : ∀ t, t < 30 → U t → Z t → ∀ w, w < 16 → W w → adj t w → X w) (h3 : ∀ w, w < 16 → X w → ∃ t, t < 30 ∧ U t ∧ Z t ∧ M t = w)
    {N : Nat → Nat} (hN : isM adj U W N) : szM N ≤ cp (fun t => U t ∧ M t < 16) 30 := by
  have hc := cover_bd (CT := fun t => ¬ Z t) (CW := X) hN (fun t ht hU w hw hW ha => by
    by_cases hz : Z t
    · exact Or.inr (h2 t ht hU hz w hw hW ha)
    · exact Or.inl hz)
  have e := cp_split (P := fun t => U t ∧ M t < 16) (Q := Z) 30
  have a1 : cp (fun t => U t ∧ ¬ Z t) 30 ≤ cp (fun t => (U t ∧ M t < 16) ∧ ¬ Z t) 30 := cp_mono (fun t ht q => ⟨⟨q.1, h1 t ht q.1 q.2⟩, q.2⟩)
  have a2 : cp X 16 ≤ cp (fun t => (U t ∧ M t < 16) ∧ Z t) 30 := by
    have hch : ∀ w, ∃ t, w < 16 → X w → t < 30 ∧ U t ∧ Z t ∧ M t = w := by
      intro w
      by_cases q : w < 16 ∧ X w
      · obtain ⟨t, ht⟩ := h3 w q.1 q.2
        exact ⟨t, fun _ _ => ht⟩
      · exact ⟨0, fun a b => absurd ⟨a, b⟩ q⟩
    obtain ⟨f, hf⟩ := Classical.axiomOfChoice hch
    refine cp_inj (f := f) (fun w hw hx => ?_) (fun i j hi hj hxi hxj e => ?_)
    · obtain ⟨b1, b2, b3, b4⟩ := hf w hw hx
      exact ⟨b1, ⟨b2, by omega⟩, b3⟩
    · have c1 := (hf i hi hxi).2.2.2
      have c2 := (hf j hj hxj).2.2.2
      rw [e] at c1
      omega
  omega
