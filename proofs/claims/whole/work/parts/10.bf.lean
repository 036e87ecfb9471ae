/-! passes over constraints: the least starts, if there are any -/
def bf_one (a : Nat → Bool) (u v : Nat → Nat) (g : Nat → Int) (x : Nat → Int) (c : Nat) : Nat → Int :=
  if a c = true ∧ x (v c) < x (u c) + g c then (fun j => if j = v c then x (u c) + g c else x j) else x
def bf_pass (a : Nat → Bool) (u v : Nat → Nat) (g : Nat → Int) : Nat → (Nat → Int) → Nat → Int
  | 0, x => x
  | c + 1, x => bf_one a u v g (bf_pass a u v g c x) c
def bf_iter (a : Nat → Bool) (u v : Nat → Nat) (g : Nat → Int) (m : Nat) : Nat → (Nat → Int) → Nat → Int
  | 0, x => x
  | k + 1, x => bf_pass a u v g m (bf_iter a u v g m k x)
def bf_sol (a : Nat → Bool) (u v : Nat → Nat) (g : Nat → Int) (m : Nat) (x : Nat → Int) : Prop := ∀ c, c < m → a c = true → x (u c) + g c ≤ x (v c)
section BF
variable {a : Nat → Bool} {u v : Nat → Nat} {g : Nat → Int} {m : Nat}
theorem bf_one_ge (x : Nat → Int) (c j : Nat) : x j ≤ bf_one a u v g x c j := by
  unfold bf_one
  split
  · next h =>
    dsimp only
    split
    · next e => subst e; omega
    · exact Int.le_refl _
  · exact Int.le_refl _
theorem bf_one_at (x : Nat → Int) (c : Nat) (ha : a c = true) : x (u c) + g c ≤ bf_one a u v g x c (v c) := by
  unfold bf_one
  split
  · simp
  · next h =>
    have : ¬ x (v c) < x (u c) + g c := fun q => h ⟨ha, q⟩
    omega
theorem bf_one_le {x y : Nat → Int} {c : Nat} (hxy : ∀ j, x j ≤ y j) (hc : a c = true → y (u c) + g c ≤ y (v c)) (j : Nat) : bf_one a u v g x c j ≤ y j := by
  unfold bf_one
  split
  · next h =>
    dsimp only
    split
    · next e =>
      subst e
      have h1 := hc h.1
      have h2 := hxy (u c)
      omega
    · exact hxy j
  · exact hxy j
theorem bf_pass_ge (x : Nat → Int) (c j : Nat) : x j ≤ bf_pass a u v g c x j := by
  induction c with
  | zero => exact Int.le_refl _
  | succ c ih => exact Int.le_trans ih (bf_one_ge _ _ _)
theorem bf_pass_up (x : Nat → Int) {c d : Nat} (h : c ≤ d) (j : Nat) : bf_pass a u v g c x j ≤ bf_pass a u v g d x j := by
  induction d with
  | zero => rw [show c = 0 by omega]; exact Int.le_refl _
  | succ d ih =>
    rcases Nat.lt_or_ge c (d + 1) with q | q
    · exact Int.le_trans (ih (by omega)) (bf_one_ge _ _ _)
    · rw [show c = d + 1 by omega]; exact Int.le_refl _
theorem bf_pass_le {x y : Nat → Int} (hxy : ∀ j, x j ≤ y j) (c : Nat) (hs : ∀ q, q < c → a q = true → y (u q) + g q ≤ y (v q)) (j : Nat) : bf_pass a u v g c x j ≤ y j := by
  induction c generalizing j with
  | zero => exact hxy j
  | succ c ih => exact bf_one_le (fun j => ih (fun q hq => hs q (by omega)) j) (hs c (by omega)) j
theorem bf_pass_at (x : Nat → Int) {c : Nat} (hc : c < m) (ha : a c = true) : x (u c) + g c ≤ bf_pass a u v g m x (v c) := by
  have h1 := bf_pass_ge (a := a) (u := u) (v := v) (g := g) x c (u c)
  have h2 := bf_one_at (u := u) (v := v) (g := g) (bf_pass a u v g c x) c ha
  have h3 := bf_pass_up (a := a) (u := u) (v := v) (g := g) x (show c + 1 ≤ m by omega) (v c)
  have h4 : bf_pass a u v g (c + 1) x (v c) = bf_one a u v g (bf_pass a u v g c x) c (v c) := rfl
  omega
/-- a pass that changes nothing: all are kept -/
theorem bf_stable {x : Nat → Int} (h : bf_pass a u v g m x = x) : bf_sol a u v g m x := by
  intro c hc ha
  have := bf_pass_at (u := u) (v := v) (g := g) x hc ha
  rw [h] at this
  exact this
theorem bf_sol_stable {x : Nat → Int} (h : bf_sol a u v g m x) : bf_pass a u v g m x = x := by
  funext j
  exact Int.le_antisymm (bf_pass_le (fun _ => Int.le_refl _) m h j) (bf_pass_ge x m j)
theorem bf_iter_ge (x : Nat → Int) (k j : Nat) : x j ≤ bf_iter a u v g m k x j := by
  induction k with
  | zero => exact Int.le_refl _
  | succ k ih => exact Int.le_trans ih (bf_pass_ge _ _ _)
theorem bf_iter_le {x y : Nat → Int} (hxy : ∀ j, x j ≤ y j) (hs : bf_sol a u v g m y) (k j : Nat) : bf_iter a u v g m k x j ≤ y j := by
  induction k generalizing j with
  | zero => exact hxy j
  | succ k ih => exact bf_pass_le ih m hs j
theorem ex_min {α : Type} (S : α → Prop) (f : α → Nat) : ∀ (n : Nat) (y : α), S y → f y = n → ∃ z, S z ∧ ∀ w, S w → f z ≤ f w := by
  intro n
  induction n using Nat.strongRecOn with
  | ind n ih =>
    intro y hy hn
    by_cases h : ∃ z, S z ∧ f z < n
    · obtain ⟨z, h1, h2⟩ := h
      exact ih (f z) h2 z h1 rfl
    · refine ⟨y, hy, fun w hw => ?_⟩
      rcases Nat.lt_or_ge (f w) n with q | q
      · exact absurd ⟨w, hw, q⟩ h
      · omega
def su_N (f : Nat → Nat) : Nat → Nat
  | 0 => 0
  | n + 1 => su_N f n + f n
theorem su_le {f g : Nat → Nat} (N : Nat) (h : ∀ j, j < N → f j ≤ g j) : su_N f N ≤ su_N g N := by
  induction N with
  | zero => exact Nat.le_refl _
  | succ n ih =>
    have h1 := ih (fun j hj => h j (by omega))
    have h2 := h n (by omega)
    show su_N f n + f n ≤ su_N g n + g n
    omega
theorem su_lt {f g : Nat → Nat} {N i : Nat} (h : ∀ j, j < N → f j ≤ g j) (hi : i < N) (hlt : f i < g i) : su_N f N < su_N g N := by
  induction N with
  | zero => omega
  | succ n ih =>
    show su_N f n + f n < su_N g n + g n
    have h2 := h n (by omega)
    by_cases e : i = n
    · subst e
      have h1 := su_le (f := f) (g := g) i (fun j hj => h j (by omega))
      omega
    · have h1 := ih (fun j hj => h j (by omega)) (by omega)
      omega
theorem su_all {f : Nat → Nat} {N : Nat} (h1 : ∀ j, j < N → f j ≤ 1) (h : N ≤ su_N f N) : ∀ j, j < N → f j = 1 := by
  induction N with
  | zero => intro j hj; omega
  | succ n ih =>
    have hb : ∀ k, (∀ j, j < k → f j ≤ 1) → su_N f k ≤ k := by
      intro k
      induction k with
      | zero => intro _; exact Nat.le_refl _
      | succ k ihk =>
        intro hk
        have q1 := ihk (fun j hj => hk j (by omega))
        have q2 := hk k (by omega)
        show su_N f k + f k ≤ k + 1
        omega
    have e : su_N f (n + 1) = su_N f n + f n := rfl
    have q1 := hb n (fun j hj => h1 j (by omega))
    have q2 := h1 n (by omega)
    intro j hj
    by_cases ej : j = n
    · subst ej; omega
    · exact ih (fun j hj => h1 j (by omega)) (by omega) j (by omega)
/-- so many passes as there are places find the least ones -/
theorem bf_conv {N : Nat} {x0 : Nat → Int} (hN : ∀ c, c < m → a c = true → u c < N ∧ v c < N) (h : ∃ y, bf_sol a u v g m y ∧ ∀ j, x0 j ≤ y j) : bf_sol a u v g m (bf_iter a u v g m N x0) := by
  obtain ⟨y0, hy0⟩ := h
  obtain ⟨y, hy, hmin⟩ := ex_min (fun y : Nat → Int => bf_sol a u v g m y ∧ ∀ j, x0 j ≤ y j) (fun y => su_N (fun j => (y j - x0 j).toNat) N) _ y0 hy0 rfl
  have hle := bf_iter_le hy.2 hy.1
  have key : ∀ k, (∀ j, j < N → bf_iter a u v g m k x0 j = y j) ∨ k ≤ su_N (fun j => if bf_iter a u v g m k x0 j = y j then 1 else 0) N := by
    intro k
    induction k with
    | zero => exact Or.inr (Nat.zero_le _)
    | succ k ih =>
      rcases ih with ih | ih
      · left
        intro j hj
        have h1 := bf_pass_ge (a := a) (u := u) (v := v) (g := g) (bf_iter a u v g m k x0) m j
        have h2 := hle (k + 1) j
        have h3 : bf_iter a u v g m (k + 1) x0 j = bf_pass a u v g m (bf_iter a u v g m k x0) j := rfl
        rw [ih j hj] at h1
        omega
      · by_cases hall : ∀ j, j < N → bf_iter a u v g m k x0 j = y j
        · left
          intro j hj
          have h1 := bf_pass_ge (a := a) (u := u) (v := v) (g := g) (bf_iter a u v g m k x0) m j
          have h2 := hle (k + 1) j
          have h3 : bf_iter a u v g m (k + 1) x0 j = bf_pass a u v g m (bf_iter a u v g m k x0) j := rfl
          rw [hall j hj] at h1
          omega
        · right
          obtain ⟨j0, hj0⟩ := Classical.not_forall.mp hall
          obtain ⟨hj1, hj2⟩ := Classical.not_imp.mp hj0
          have hz : ∃ c, c < m ∧ a c = true ∧ bf_iter a u v g m k x0 (u c) = y (u c) ∧ ¬ bf_iter a u v g m k x0 (v c) = y (v c) ∧ y (u c) + g c = y (v c) := by
            apply Classical.byContradiction
            intro hno
            have hsol : bf_sol a u v g m (fun j => if bf_iter a u v g m k x0 j = y j then y j else y j - 1) ∧ ∀ j, x0 j ≤ (fun j => if bf_iter a u v g m k x0 j = y j then y j else y j - 1) j := by
              refine ⟨fun c hc ha => ?_, fun j => ?_⟩
              · have h1 := hy.1 c hc ha
                dsimp only
                by_cases e1 : bf_iter a u v g m k x0 (u c) = y (u c) <;> by_cases e2 : bf_iter a u v g m k x0 (v c) = y (v c)
                · rw [if_pos e1, if_pos e2]; exact h1
                · rw [if_pos e1, if_neg e2]
                  have : ¬ y (u c) + g c = y (v c) := fun q => hno ⟨c, hc, ha, e1, e2, q⟩
                  omega
                · rw [if_neg e1, if_pos e2]; omega
                · rw [if_neg e1, if_neg e2]; omega
              · dsimp only
                have h1 := bf_iter_ge (a := a) (u := u) (v := v) (g := g) (m := m) x0 k j
                have h2 := hle k j
                by_cases e : bf_iter a u v g m k x0 j = y j
                · rw [if_pos e]; omega
                · rw [if_neg e]; omega
            have h1 := hmin _ hsol
            have h2 : su_N (fun j => ((fun j => if bf_iter a u v g m k x0 j = y j then y j else y j - 1) j - x0 j).toNat) N < su_N (fun j => (y j - x0 j).toNat) N := by
              refine su_lt (fun j hj => ?_) hj1 ?_
              · dsimp only
                split <;> omega
              · dsimp only
                rw [if_neg hj2]
                have q1 := bf_iter_ge (a := a) (u := u) (v := v) (g := g) (m := m) x0 k j0
                have q2 := hle k j0
                omega
            exact absurd h1 (Nat.not_le.mpr h2)
          obtain ⟨c, hc, ha, e1, e2, e3⟩ := hz
          have hv := (hN c hc ha).2
          have h1 := bf_pass_at (u := u) (v := v) (g := g) (bf_iter a u v g m k x0) hc ha
          have h2 := hle (k + 1) (v c)
          have h3 : bf_iter a u v g m (k + 1) x0 (v c) = bf_pass a u v g m (bf_iter a u v g m k x0) (v c) := rfl
          have h4 : bf_iter a u v g m (k + 1) x0 (v c) = y (v c) := by
            rw [e1] at h1
            omega
          have h5 : su_N (fun j => if bf_iter a u v g m k x0 j = y j then 1 else 0) N < su_N (fun j => if bf_iter a u v g m (k + 1) x0 j = y j then 1 else 0) N := by
            refine su_lt (fun j hj => ?_) hv ?_
            · by_cases e : bf_iter a u v g m k x0 j = y j
              · have q1 := bf_pass_ge (a := a) (u := u) (v := v) (g := g) (bf_iter a u v g m k x0) m j
                have q2 := hle (k + 1) j
                have q3 : bf_iter a u v g m (k + 1) x0 j = bf_pass a u v g m (bf_iter a u v g m k x0) j := rfl
                have q4 : bf_iter a u v g m (k + 1) x0 j = y j := by
                  rw [e] at q1
                  omega
                rw [if_pos e, if_pos q4]
                exact Nat.le_refl _
              · rw [if_neg e]; exact Nat.zero_le _
            · rw [if_neg e2, if_pos h4]
              exact Nat.zero_lt_one
          omega
  have hfin : ∀ j, j < N → bf_iter a u v g m N x0 j = y j := by
    rcases key N with h | h
    · exact h
    · intro j hj
      have := su_all (fun j _ => by split <;> omega) h j hj
      by_cases e : bf_iter a u v g m N x0 j = y j
      · exact e
      · rw [if_neg e] at this; omega
  intro c hc ha
  obtain ⟨h1, h2⟩ := hN c hc ha
  rw [hfin _ h1, hfin _ h2]
  exact hy.1 c hc ha
end BF
