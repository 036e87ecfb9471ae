/-! how many tasks it is to the end: the greatest function that keeps the steps; and the chain out of it -/
def DW (n : Nat) (tt : Nat → Nat → Prop) (en : Nat → Prop) (M : Int) (W : Nat → Int) : Prop :=
  (∀ a b, a < n → b < n → tt a b → W a ≤ W b + 1) ∧ (∀ t, t < n → W t ≤ M ∧ (en t → W t ≤ 1)) ∧
  ∀ z : Nat → Int, (∀ a b, a < n → b < n → tt a b → z a ≤ z b + 1) → (∀ t, t < n → z t ≤ M ∧ (en t → z t ≤ 1)) → ∀ t, t < n → z t ≤ W t
section DWS
variable {n : Nat} {tt : Nat → Nat → Prop} {en : Nat → Prop} {M : Int} {W : Nat → Int}
theorem DW.pos (h : DW n tt en M W) (hM : 1 ≤ M) {t : Nat} (ht : t < n) : 1 ≤ W t :=
  h.2.2 (fun _ => 1) (fun _ _ _ _ _ => by omega) (fun _ _ => ⟨hM, fun _ => by omega⟩) t ht
theorem DW.succ (h : DW n tt en M W) {t : Nat} (ht : t < n) (h1 : 1 < W t) (h2 : W t < M) : ∃ b, b < n ∧ tt t b ∧ W b = W t - 1 := by
  apply Classical.byContradiction
  intro hno
  have := h.2.2 (fun j => if j = t then W t + 1 else W j) (fun a b ha hb hab => by
    have q := h.1 a b ha hb hab
    try dsimp only
    by_cases e1 : a = t <;> by_cases e2 : b = t
    · rw [if_pos e1, if_pos e2]; omega
    · rw [if_pos e1, if_neg e2]
      subst e1
      have : ¬ W b = W a - 1 := fun q => hno ⟨b, hb, hab, q⟩
      omega
    · rw [if_neg e1, if_pos e2]; subst e2; omega
    · rw [if_neg e1, if_neg e2]; exact q) (fun j hj => by
    have q := h.2.1 j hj
    try dsimp only
    by_cases e : j = t
    · rw [if_pos e]
      subst e
      refine ⟨by omega, fun q2 => ?_⟩
      have := q.2 q2
      omega
    · rw [if_neg e]; exact q) t ht
  try dsimp only at this
  rw [if_pos rfl] at this
  omega
/-- all the values below one that is taken are taken -/
theorem DW.down (h : DW n tt en M W) : ∀ (k : Nat) {t : Nat}, t < n → W t < M → W t = (k : Int) + 1 → ∀ j : Nat, 1 ≤ j → j ≤ k + 1 → ∃ b, b < n ∧ W b = j := by
  intro k
  induction k with
  | zero => intro t ht h1 h2 j hj1 hj2; exact ⟨t, ht, by omega⟩
  | succ k ih =>
    intro t ht h1 h2 j hj1 hj2
    by_cases e : j = k + 2
    · exact ⟨t, ht, by omega⟩
    · obtain ⟨b, hb1, -, hb3⟩ := h.succ ht (by omega) h1
      exact ih hb1 (by omega) (by omega) j hj1 (by omega)
theorem cn_vals {n : Nat} {W : Nat → Int} : ∀ k : Nat, (∀ j : Nat, 1 ≤ j → j ≤ k → ∃ b, b < n ∧ W b = j) → k ≤ cn (fun t => decide (1 ≤ W t ∧ W t ≤ k)) n := by
  intro k
  induction k with
  | zero => intro _; exact Nat.zero_le _
  | succ k ih =>
    intro h
    have h1 := ih (fun j a b => h j a (by omega))
    obtain ⟨b, hb1, hb2⟩ := h (k + 1) (by omega) (by omega)
    have h2 : cn (fun t => decide (1 ≤ W t ∧ W t ≤ (k : Int))) n < cn (fun t => decide (1 ≤ W t ∧ W t ≤ ((k + 1 : Nat) : Int))) n := by
      refine cn_lt (k := b) (fun i hi q => ?_) hb1 ?_ ?_
      · rw [decide_eq_true_eq] at q ⊢
        omega
      · rw [decide_eq_true_eq]
        omega
      · rw [decide_eq_true_eq]
        omega
    omega
theorem DW.small (h : DW n tt en M W) (hM : 1 ≤ M) {t : Nat} (ht : t < n) (h1 : W t < M) : W t ≤ n := by
  have h0 := h.pos hM ht
  obtain ⟨k, hk⟩ : ∃ k : Nat, W t = (k : Int) + 1 := ⟨(W t - 1).toNat, by omega⟩
  have h2 := cn_vals (n := n) (W := W) (k + 1) (fun j a b => h.down k ht h1 hk j a b)
  have h3 := cn_le (fun t => decide (1 ≤ W t ∧ W t ≤ ((k + 1 : Nat) : Int))) n
  omega
end DWS
/-- the bound doesn't matter -/
theorem DW.cut {n : Nat} {tt : Nat → Nat → Prop} {en : Nat → Prop} {M M' : Int} {W W' : Nat → Int} (hn : (n : Int) < M) (hM : M ≤ M') (hM1 : 1 ≤ M) (h : DW n tt en M W) (h' : DW n tt en M' W') : ∀ t, t < n → (W t = W' t ∧ W t < M) ∨ (W t = M ∧ W' t = M') := by
  intro t ht
  have h1 : W t ≤ W' t := h'.2.2 W h.1 (fun t ht => ⟨Int.le_trans (h.2.1 t ht).1 hM, (h.2.1 t ht).2⟩) t ht
  have h2 := h.2.2 (fun j => if W' j ≤ M then W' j else M) (fun a b ha hb hab => by
    have q := h'.1 a b ha hb hab
    try dsimp only
    split <;> split <;> omega) (fun j hj => by
    have q := h'.2.1 j hj
    try dsimp only
    refine ⟨by split <;> omega, fun q2 => ?_⟩
    have := q.2 q2
    split <;> omega) t ht
  try dsimp only at h2
  have h3 := (h.2.1 t ht).1
  have h4 := (h'.2.1 t ht).1
  rcases Int.lt_or_le (W' t) M' with q | q
  · have := h'.small (by omega) ht q
    left
    split at h2 <;> omega
  · rcases Int.lt_or_le (W t) M with q2 | q2
    · split at h2 <;> omega
    · right; omega
def isL (P : Nat → Prop) (t : Nat) : Prop := P t ∧ ∀ s, s < t → ¬ P s
theorem isL.unique {P : Nat → Prop} {s t : Nat} (h1 : isL P s) (h2 : isL P t) : s = t := by
  rcases Nat.lt_trichotomy s t with h | h | h
  · exact absurd h1.1 (h2.2 s h)
  · exact h
  · exact absurd h2.1 (h1.2 t h)
/-- the chain, k tasks T 0, T 1 .. -/
def CHN (n : Nat) (x : Nat → Int) (tt : Nat → Nat → Prop) (W : Nat → Int) (M : Int) (k : Nat) (T : Nat → Nat) : Prop :=
  (k = 0 ∧ ∀ t, t < n → x t = 0 → M ≤ W t) ∨ (0 < k ∧ (k : Int) < M ∧ (∀ t, t < n → x t = 0 → (k : Int) ≤ W t) ∧ isL (fun t => t < n ∧ x t = 0 ∧ W t = k) (T 0) ∧ ∀ i, i + 1 < k → isL (fun t => t < n ∧ tt (T i) t ∧ W t = (k : Int) - 1 - i) (T (i + 1)))
theorem CHN.unique {n : Nat} {x : Nat → Int} {tt : Nat → Nat → Prop} {en : Nat → Prop} {M M' : Int} {W W' : Nat → Int} (hn : (n : Int) < M) (hM : M ≤ M') (hM1 : 1 ≤ M) (h : DW n tt en M W) (h' : DW n tt en M' W') {k k' : Nat} {T T' : Nat → Nat} (hc : CHN n x tt W M k T) (hc' : CHN n x tt W' M' k' T') : k = k' ∧ ∀ i, i < k → T i = T' i := by
  have hcut := DW.cut hn hM hM1 h h'
  have hlt : ∀ t, t < n → W t < M → W' t = W t := fun t ht q => by have := hcut t ht; omega
  have hlt' : ∀ t, t < n → W' t < M' → W' t = W t ∧ W t < M := fun t ht q => by have := hcut t ht; omega
  rcases hc with ⟨h1, h2⟩ | ⟨h1, h2, h3, h4, h5⟩ <;> rcases hc' with ⟨g1, g2⟩ | ⟨g1, g2, g3, g4, g5⟩
  · exact ⟨by omega, fun i hi => by omega⟩
  · exfalso
    obtain ⟨q1, q2, q3⟩ := g4.1
    have := h2 _ q1 q2
    have := hlt' _ q1 (by omega)
    omega
  · exfalso
    obtain ⟨q1, q2, q3⟩ := h4.1
    have := g2 _ q1 q2
    have := hlt _ q1 (by omega)
    omega
  · obtain ⟨q1, q2, q3⟩ := h4.1
    obtain ⟨r1, r2, r3⟩ := g4.1
    have e1 := g3 _ q1 q2
    have e2 := h3 _ r1 r2
    have e3 := hlt _ q1 (by omega)
    have e4 := hlt' _ r1 (by omega)
    have ek : k = k' := by omega
    subst ek
    refine ⟨rfl, fun i => ?_⟩
    induction i with
    | zero =>
      intro _
      refine isL.unique h4 ⟨⟨r1, r2, by omega⟩, fun s hs q => g4.2 s hs ⟨q.1, q.2.1, ?_⟩⟩
      have := hlt s q.1 (by have := q.2.2; omega)
      have := q.2.2
      omega
    | succ i ih =>
      intro hi
      have hT := ih (by omega)
      have a1 := h5 i hi
      have a2 := g5 i hi
      rw [← hT] at a2
      obtain ⟨b1, b2, b3⟩ := a2.1
      have c1 := hlt' _ b1 (by omega)
      refine isL.unique a1 ⟨⟨b1, b2, by omega⟩, fun s hs q => a2.2 s hs ⟨q.1, q.2.1, ?_⟩⟩
      have := hlt s q.1 (by have := q.2.2; omega)
      have := q.2.2
      omega
