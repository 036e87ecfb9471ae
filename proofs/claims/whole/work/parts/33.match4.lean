/-! keepCover, take -/
theorem b_not (x : Int32) {i : Nat} (hi : i < 32) : bt (x ^^^ (-1)) i = !bt x i := by rw [b_xor, b_m1 i hi]; cases bt x i <;> rfl
/-- without one bit -/
theorem b_cut (x : Int32) {n i : Nat} (hn : n < 32) (hi : i < 32) : bt (x &&& (((1 : Int32) <<< (nI n &&& 31)) ^^^ (-1))) i = (bt x i && !decide (i = n)) := by
  rw [b_and, b_not _ hi, b_bit hn hi]
abbrev sp_keepCover : dk_M := dk_sp 1 false (fun _ : Unit => [.inr 25]) (fun _ σ => ∃ q, q ≤ 30 ∧ σ 25 9 = nI q ∧ ∀ j, j < q → ∃ t, t < 30 ∧ σ 28 j = nI t)
  (fun _ σ _ σ' => ∃ ct, σ' = dk_up σ 25 (upd (upd (σ 25) 4 ct) 5 (σ 25 10)) ∧ ∀ q, q ≤ 30 → σ 25 9 = nI q → ∀ i, i < 32 → (bt ct i = true ↔ bt (σ 25 3) i = true ∧ ∀ j, j < q → ¬ σ 28 j = nI i))
set_option maxRecDepth 100000 in
set_option maxHeartbeats 1000000 in
theorem q_keepCover : dk_pure (kX3_keepCover, fX3, [], [], nX3, 2, false) sp_keepCover := by
  refine dk_sp_pure (fun _ _ _ => rfl) (fun _ => rfl) ?_
  rintro OK _ σ ⟨q, hq, hq9, hqu⟩ hC
  have u4 : ∀ (a b : Int32), upd (upd (σ 25) 4 a) 4 b = upd (σ 25) 4 b := fun a b => by funext j; unfold upd; split <;> rfl
  have loop : ∀ (n i : Nat) (ct : Int32), i + n = q → (∀ k, k < 32 → (bt ct k = true ↔ bt (σ 25 3) k = true ∧ ∀ j, j < i → ¬ σ 28 j = nI k)) → OK 10 [(0, .inr 25), (1, .inl (nI i))] [] (dk_up σ 25 (upd (σ 25) 4 ct)) := by
    intro n
    induction n with
    | zero =>
      intro i ct hi hct
      refine hC.go (fun q => if q = 10 then some 2 else none) 60 ?_
      refine ⟨fun _ => ⟨ct, ?_, fun q' hq' hq9' => ?_⟩, fun h => ?_⟩
      · show dk_up (dk_up σ 25 (upd (σ 25) 4 ct)) 25 (upd (upd (σ 25) 4 ct) 5 (σ 25 10)) = _
        rw [dk_up_up]
      · rw [hq9, nI_eq (by omega) (by omega)] at hq9'
        rw [← hq9', show q = i by omega]
        exact hct
      · exfalso
        apply h
        show σ 25 9 ≤ nI i
        rw [hq9, show q = i by omega]
        exact Int32.le_refl _
    | succ n ih =>
      intro i ct hi hct
      have ei : (nI i).toNatClampNeg = i := nI_clamp (by omega)
      obtain ⟨t, ht, ht1⟩ := hqu i (by omega)
      refine hC.go (fun q => if q = 10 then some 2 else none) 60 ?_
      refine ⟨fun h => ?_, fun _ => ⟨30, rfl, vp_in_nI (by omega) (by omega), by decide, ?_⟩⟩
      · exfalso
        have h : σ 25 9 ≤ nI i := h
        rw [hq9] at h
        exact nI_ge (by omega) (by omega) h
      · have key := ih (i + 1) (ct &&& (((1 : Int32) <<< (nI t &&& 31)) ^^^ (-1))) (by omega) (fun k hk => ?_)
        · rw [← nI_1 i] at key
          have e : dk_up (dk_up σ 25 (upd (σ 25) 4 ct)) 25 (upd (upd (σ 25) 4 ct) 4 (ct &&& (((1 : Int32) <<< (σ 28 (nI i).toNatClampNeg &&& 31)) ^^^ (-1)))) = dk_up σ 25 (upd (σ 25) 4 (ct &&& (((1 : Int32) <<< (nI t &&& 31)) ^^^ (-1)))) := by
            rw [dk_up_up, u4, ei, ht1]
          rw [← e] at key
          exact key
        · rw [b_cut ct (by omega) hk]
          simp only [Bool.and_eq_true, Bool.not_eq_true', decide_eq_false_iff_not]
          rw [hct k hk]
          constructor
          · rintro ⟨⟨a, b⟩, c⟩
            refine ⟨a, fun j hj => ?_⟩
            by_cases e : j = i
            · subst e
              rw [ht1]
              intro q
              rw [nI_eq (by omega) (by omega)] at q
              exact c q.symm
            · exact b j (by omega)
          · rintro ⟨a, b⟩
            refine ⟨⟨a, fun j hj => b j (by omega)⟩, fun c => ?_⟩
            have := b i (by omega)
            rw [ht1, c] at this
            exact this rfl
  refine hC.go (fun q => if q = 10 then some 2 else none) 60 ?_
  refine ⟨by decide, ?_⟩
  exact loop q 0 (σ 25 3) (by omega) (fun k hk => ⟨fun h => ⟨h, fun j hj => by omega⟩, fun h => h.1⟩)
/-- matched tasks run, and their workers have the skill -/
def MA (ru : Int32) (sk wt : Nat → Int32) : Prop := ∀ s, s < 30 → ∀ w, w < 16 → wt s = nI w → bt ru s = true ∧ bt (sk s) w = true
def adjS (sk : Nat → Int32) (t w : Nat) : Prop := bt (sk t) w = true
def ltr (ru : Int32) (t s : Nat) : Prop := t < s ∧ bt ru s = true
def inW (W : Int32) (w : Nat) : Prop := bt W w = true
noncomputable def szW (wt : Nat → Int32) : Nat := cp (fun s => ¬ wt s = -1) 30
noncomputable def szL (wt : Nat → Int32) (t : Nat) : Nat := cp (fun s => t < s ∧ ¬ wt s = -1) 30
/-- what take stands on: the task t, the worker w, and W the other workers that are left -/
def tk (σ : dk_S) (t w : Nat) (W : Int32) : Prop := MI (σ 26) (σ 27) ∧ MA (σ 25 3) (σ 8) (σ 26) ∧ t < 30 ∧ w < 16 ∧ bt (σ 25 3) t = true ∧ bt (σ 8 t) w = true ∧ ¬ bt W w = true ∧
  (∀ s, s < t → ∀ v, v < 16 → σ 26 s = nI v → ¬ bt W v = true ∧ ¬ v = w) ∧ (∀ s, s < t → bt (σ 25 3) s = true → σ 26 s = -1 → ∀ v, v < 16 → bt W v = true → ¬ bt (σ 8 s) v = true) ∧ (∀ s, s < 30 → t ≤ s → ∀ v, v < 16 → σ 26 s = nI v → bt W v = true ∨ v = w)
/-- the match cell but for what a search notes -/
def sc (c c' : Nat → Int32) : Prop := ∀ j, ¬ j = 9 → ¬ j = 10 → c' j = c j
theorem MI.inj {wt tw : Nat → Int32} (h : MI wt tw) {s s' w : Nat} (hs : s < 30) (hs' : s' < 30) (hw : w < 16) (h1 : wt s = nI w) (h2 : wt s' = nI w) : s = s' := by
  rcases h.1 s hs with q | ⟨v, hv, q1, q2⟩
  · rw [q] at h1; exact absurd h1.symm (nI_m1 (by omega))
  · rcases h.1 s' hs' with r | ⟨x, hx, r1, r2⟩
    · rw [r] at h2; exact absurd h2.symm (nI_m1 (by omega))
    · rw [h1, nI_eq (by omega) (by omega)] at q1
      rw [h2, nI_eq (by omega) (by omega)] at r1
      subst q1
      subst r1
      rw [q2, nI_eq (by omega) (by omega)] at r2
      exact r2
theorem MI.get {wt tw : Nat → Int32} (h : MI wt tw) {s : Nat} (hs : s < 30) (hn : ¬ wt s = -1) : ∃ w, w < 16 ∧ wt s = nI w ∧ tw w = nI s := (h.1 s hs).resolve_left hn
theorem MI.tw {wt tw : Nat → Int32} (h : MI wt tw) {s w : Nat} (hs : s < 30) (hw : w < 16) (h1 : wt s = nI w) : tw w = nI s := by
  obtain ⟨v, hv, q1, q2⟩ := h.get hs (by rw [h1]; exact nI_m1 (by omega))
  rw [h1, nI_eq (by omega) (by omega)] at q1
  subst q1
  exact q2
theorem MI.wt {wt tw : Nat → Int32} (h : MI wt tw) {s w : Nat} (hs : s < 30) (hw : w < 16) (h1 : tw w = nI s) : wt s = nI w := by
  rcases h.2 w hw with q | ⟨x, hx, q1, q2⟩
  · rw [q] at h1; exact absurd h1.symm (nI_m1 (by omega))
  · rw [h1, nI_eq (by omega) (by omega)] at q1
    subst q1
    exact q2
abbrev sp_take : dk_M := dk_sp 4 true (fun x : Int32 × Int32 × Int32 => [.inr 25, .inl x.1, .inl x.2.1, .inl x.2.2]) (fun x σ => ∃ t w, x.1 = nI t ∧ x.2.1 = nI w ∧ tk σ t w x.2.2)
  (fun x σ r σ' => ∀ t w, x.1 = nI t → x.2.1 = nI w → tk σ t w x.2.2 → ∃ c' wt' tw' qu fi, σ' = SM σ c' wt' tw' qu fi ∧ sc (σ 25) c' ∧ MI wt' tw' ∧ MA (σ 25 3) (σ 8) wt' ∧
    ((r = 1 ∧ (∀ s, s < t → wt' s = σ 26 s) ∧ wt' t = nI w ∧ (∀ s, s < 30 → t < s → ∀ v, v < 16 → wt' s = nI v → bt x.2.2 v = true) ∧ szW (σ 26) ≤ szW wt') ∨
     (r = 0 ∧ wt' = σ 26 ∧ tw' = σ 27 ∧ ¬ σ 26 t = -1 ∧ ∀ N, isM (adjS (σ 8)) (ltr (σ 25 3) t) (inW x.2.2) N → szM N + 1 ≤ szL (σ 26) t)))
