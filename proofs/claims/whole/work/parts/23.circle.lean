/-! the class's Circle: its edges -/
/-- the bounds and constraints by one number: constraints first -/
def eA (σ : dk_S) (e : Nat) : Bool := if e < mC σ then aC σ e else true
def eF (σ : dk_S) (e : Nat) : Nat := if e < mC σ then uC σ e else 30
def eT (σ : dk_S) (e : Nat) : Nat := if e < mC σ then vC σ e else e - mC σ
def eG (σ : dk_S) (e : Nat) : Int := if e < mC σ then gC σ e else 0
def eN (σ : dk_S) (e : Nat) : Nat := if e < mC σ then e else 200 + (e - mC σ)
def nE (σ : dk_S) : Nat := mC σ + nC σ
/-- five cells of the circle -/
def S5 (σ : dk_S) (c n f t g : Nat → Int32) : dk_S := fun q => if q = 18 then c else if q = 20 then n else if q = 21 then f else if q = 22 then t else if q = 23 then g else σ q
theorem S5_18 {σ : dk_S} {c n f t g x : Nat → Int32} : dk_up (S5 σ c n f t g) 18 x = S5 σ x n f t g := by
  funext q; unfold dk_up S5; split <;> rfl
theorem S5_20 {σ : dk_S} {c n f t g x : Nat → Int32} : dk_up (S5 σ c n f t g) 20 x = S5 σ c x f t g := by
  funext q; unfold dk_up S5
  by_cases h : q = 20
  · subst h; rfl
  · rw [if_neg h, if_neg h, if_neg h]
theorem S5_21 {σ : dk_S} {c n f t g x : Nat → Int32} : dk_up (S5 σ c n f t g) 21 x = S5 σ c n x t g := by
  funext q; unfold dk_up S5
  by_cases h : q = 21
  · subst h; rfl
  · rw [if_neg h, if_neg h, if_neg h]
theorem S5_22 {σ : dk_S} {c n f t g x : Nat → Int32} : dk_up (S5 σ c n f t g) 22 x = S5 σ c n f x g := by
  funext q; unfold dk_up S5
  by_cases h : q = 22
  · subst h; rfl
  · rw [if_neg h, if_neg h, if_neg h]
theorem S5_23 {σ : dk_S} {c n f t g x : Nat → Int32} : dk_up (S5 σ c n f t g) 23 x = S5 σ c n f t x := by
  funext q; unfold dk_up S5
  by_cases h : q = 23
  · subst h; rfl
  · rw [if_neg h, if_neg h, if_neg h]
theorem S5_id {σ : dk_S} : S5 σ (σ 18) (σ 20) (σ 21) (σ 22) (σ 23) = σ := by
  funext q; unfold S5
  by_cases h : q = 18
  · subst h; rfl
  rw [if_neg h]
  by_cases h : q = 20
  · subst h; rfl
  rw [if_neg h]
  by_cases h : q = 21
  · subst h; rfl
  rw [if_neg h]
  by_cases h : q = 22
  · subst h; rfl
  rw [if_neg h]
  by_cases h : q = 23
  · subst h; rfl
  rw [if_neg h]
theorem S5_NW {σ : dk_S} {c n f t g : Nat → Int32} (h : NW σ) : NW (S5 σ c n f t g) := h
abbrev sp_addEdge : dk_M := dk_sp 5 false (fun x : Int32 × Int32 × Int32 × Int32 => [.inr 18, .inl x.1, .inl x.2.1, .inl x.2.2.1, .inl x.2.2.2]) (fun _ σ => ∃ k, k < 150 ∧ σ 18 3 = nI k) (fun x σ _ σ' => ∀ k, k < 150 → σ 18 3 = nI k → σ' = S5 σ (upd (σ 18) 3 (nI (k + 1))) (upd (σ 20) k x.1) (upd (σ 21) k x.2.1) (upd (σ 22) k x.2.2.1) (upd (σ 23) k x.2.2.2))
set_option maxRecDepth 100000 in
theorem q_addEdge : dk_pure (kX1_addEdge, fX1, [], [], [], 5, false) sp_addEdge := by
  refine dk_sp_pure (fun x x' e => by obtain ⟨a, b, c, d⟩ := x; obtain ⟨a', b', c', d'⟩ := x'; cases e; rfl) (fun _ => rfl) ?_
  rintro OK ⟨a, b, c, d⟩ σ ⟨k, hk, hk1⟩ hC
  have ek : (nI k).toNatClampNeg = k := nI_clamp (by omega)
  have hi : vp_in (σ 18 3) 150 := by rw [hk1]; exact vp_in_nI hk (by omega)
  refine hC.go (fun _ => none) 40 ?_
  refine ⟨150, rfl, hi, 150, rfl, hi, 150, rfl, hi, 150, rfl, hi, fun k' hk' hk1' => ?_⟩
  rw [hk1, nI_eq (by omega) (by omega)] at hk1'
  subst hk1'
  show dk_up (dk_up (dk_up (dk_up (dk_up σ 20 (upd (σ 20) (σ 18 3).toNatClampNeg a)) 21 (upd (σ 21) (σ 18 3).toNatClampNeg b)) 22 (upd (σ 22) (σ 18 3).toNatClampNeg c)) 23 (upd (σ 23) (σ 18 3).toNatClampNeg d)) 18 (upd (σ 18) 3 (σ 18 3 + 1)) = _
  rw [hk1, ek, nI_1]
  have h := S5_id (σ := σ)
  conv => lhs; rw [← h]
  rw [S5_20, S5_21, S5_22, S5_23, S5_18]
  rfl
/-- the rows hold the first e edges that count, in order: φ says which -/
def EVe (σ : dk_S) (e k : Nat) (φ : Nat → Nat) (n f t g : Nat → Int32) : Prop :=
  (∀ i, i < k → φ i < e ∧ eA σ (φ i) = true ∧ n i = nI (eN σ (φ i)) ∧ f i = nI (eF σ (φ i)) ∧ t i = nI (eT σ (φ i)) ∧ (g i).toInt = eG σ (φ i)) ∧ (∀ i j, i < j → j < k → φ i < φ j) ∧ (∀ q, q < e → eA σ q = true → ∃ i, i < k ∧ φ i = q) ∧ k ≤ e ∧ k = cn (eA σ) e ∧ ∀ i, i < k → cn (eA σ) (φ i) = i
theorem EVe.skip {σ : dk_S} {e k : Nat} {φ : Nat → Nat} {n f t g : Nat → Int32} (h : EVe σ e k φ n f t g) (ha : ¬ eA σ e = true) : EVe σ (e + 1) k φ n f t g := by
  obtain ⟨h1, h2, h3, h4, h5, h6⟩ := h
  refine ⟨fun i hi => ?_, h2, fun q hq hqa => ?_, by omega, by simp only [cn]; rw [if_neg ha]; exact h5, h6⟩
  · obtain ⟨a, b⟩ := h1 i hi
    exact ⟨by omega, b⟩
  · by_cases e1 : q = e
    · subst e1; exact absurd hqa ha
    · exact h3 q (by omega) hqa
theorem EVe.add {σ : dk_S} {e k : Nat} {φ : Nat → Nat} {n f t g : Nat → Int32} (h : EVe σ e k φ n f t g) (ha : eA σ e = true) {x y z : Int32} {w : Int32} (hx : x = nI (eN σ e)) (hy : y = nI (eF σ e)) (hz : z = nI (eT σ e)) (hw : w.toInt = eG σ e) : EVe σ (e + 1) (k + 1) (fun i => if i = k then e else φ i) (upd n k x) (upd f k y) (upd t k z) (upd g k w) := by
  obtain ⟨h1, h2, h3, h4, h5, h6⟩ := h
  refine ⟨fun i hi => ?_, fun i j hij hj => ?_, fun q hq hqa => ?_, by omega, by simp only [cn]; rw [if_pos ha]; omega, fun i hi => ?_⟩
  · by_cases e1 : i = k
    · subst e1
      simp only [upd, if_pos]
      exact ⟨by omega, ha, hx, hy, hz, hw⟩
    · obtain ⟨a, b⟩ := h1 i (by omega)
      simp only [upd, if_neg e1]
      exact ⟨by omega, b⟩
  · try dsimp only
    rw [if_neg (show ¬ i = k by omega)]
    by_cases e1 : j = k
    · rw [if_pos e1]; exact (h1 i (by omega)).1
    · rw [if_neg e1]; exact h2 i j hij (by omega)
  · by_cases e1 : q = e
    · subst e1; exact ⟨k, by omega, by simp⟩
    · obtain ⟨i, a, b⟩ := h3 q (by omega) hqa
      exact ⟨i, by omega, by simp [show ¬ i = k by omega, b]⟩
  · try dsimp only
    by_cases e1 : i = k
    · rw [if_pos e1, e1]; exact h5.symm
    · rw [if_neg e1]; exact h6 i (by omega)
abbrev sp_gatherEdges : dk_M := dk_sp 1 false (fun _ : Unit => [.inr 18]) (fun _ σ => NW σ) (fun _ σ _ σ' => ∃ k φ n f t g, σ' = S5 σ (upd (σ 18) 3 (nI k)) n f t g ∧ EVe σ (nE σ) k φ n f t g)
set_option maxRecDepth 100000 in
set_option maxHeartbeats 2000000 in
theorem q_gatherEdges : dk_pure (kX1_gatherEdges, fX1, [(87, sp_addEdge)], [], [], 2, false) sp_gatherEdges := by
  refine dk_sp_pure (fun _ _ _ => rfl) (fun _ => rfl) ?_
  rintro OK _ σ hN hC
  have hn := hN.n30
  have hm := hN.m120
  have u3 : ∀ (c : Nat → Int32) (a b : Int32), upd (upd c 3 a) 3 b = upd c 3 b := fun c a b => by
    funext j; unfold upd; split <;> rfl
  have u33 : ∀ (c : Nat → Int32) (a : Int32), upd c 3 a 3 = a := fun c a => by simp [upd]
  have loop2 : ∀ (d t k : Nat) (φ : Nat → Nat) (n f to g : Nat → Int32), t + d = nC σ → EVe σ (mC σ + t) k φ n f to g → OK 70 [(0, .inr 18), (1, .inl (nI t))] [] (S5 σ (upd (σ 18) 3 (nI k)) n f to g) := by
    intro d
    induction d with
    | zero =>
      intro t k φ n f to g ht hE
      refine hC.go (fun q => if q = 70 then some 2 else none) 60 ?_
      refine ⟨fun _ => ⟨k, φ, n, f, to, g, rfl, ?_⟩, fun h => ?_⟩
      · unfold nE; rw [show nC σ = t by omega]; exact hE
      · exfalso
        apply h
        show σ 1 0 ≤ nI t
        rw [hN.n, show nC σ = t by omega]
        exact Int32.le_refl _
    | succ d ih =>
      intro t k φ n f to g ht hE
      have hk := hE.2.2.2.1
      have t200 : (200 : Int32) + nI t = nI (200 + t) := nI_add 200 t
      refine hC.go (fun q => if q = 70 then some 2 else none) 60 ?_
      refine ⟨fun h => ?_, fun _ => ?_⟩
      · exfalso
        have h : σ 1 0 ≤ nI t := h
        rw [hN.n] at h
        exact nI_ge (by omega) (by omega) h
      refine dk_cs ((200 : Int32) + nI t, nI 30, nI t, 0) rfl rfl rfl ⟨k, by omega, u33 (σ 18) (nI k)⟩ (fun _ σ1 hq => ?_)
      have hq := hq k (by omega) (u33 (σ 18) (nI k))
      rw [hq]
      refine ⟨by decide, ?_⟩
      have hlt : ¬ mC σ + t < mC σ := by omega
      have key := ih (t + 1) (k + 1) _ _ _ _ _ (by omega) (hE.add (x := (200 : Int32) + nI t) (y := nI 30) (z := nI t) (w := 0) (by unfold eA; rw [if_neg hlt]) (by unfold eN; rw [if_neg hlt, t200, show mC σ + t - mC σ = t by omega]) (by unfold eF; rw [if_neg hlt]) (by unfold eT; rw [if_neg hlt, show mC σ + t - mC σ = t by omega]) (by unfold eG; rw [if_neg hlt]; rfl))
      rw [← nI_1 t] at key
      have e : S5 (S5 σ (upd (σ 18) 3 (nI k)) n f to g) (upd (upd (σ 18) 3 (nI k)) 3 (nI (k + 1))) (upd n k ((200 : Int32) + nI t)) (upd f k (nI 30)) (upd to k (nI t)) (upd g k 0) = S5 σ (upd (σ 18) 3 (nI (k + 1))) (upd n k ((200 : Int32) + nI t)) (upd f k (nI 30)) (upd to k (nI t)) (upd g k 0) := by
        rw [u3]
        funext q; unfold S5
        repeat' split
        all_goals rfl
      rw [← e] at key
      exact key
  have loop1 : ∀ (d c k : Nat) (φ : Nat → Nat) (n f to g : Nat → Int32), c + d = mC σ → EVe σ c k φ n f to g → OK 7 [(0, .inr 18), (1, .inl (nI c))] [] (S5 σ (upd (σ 18) 3 (nI k)) n f to g) := by
    intro d
    induction d with
    | zero =>
      intro c k φ n f to g hc hE
      refine hC.go (fun q => if q = 70 then some 2 else none) 60 ?_
      refine ⟨fun _ => ⟨by decide, ?_⟩, fun h => ?_⟩
      · exact loop2 (nC σ) 0 k φ n f to g (by omega) (by rw [show mC σ + 0 = c by omega]; exact hE)
      · exfalso
        apply h
        show σ 1 1 ≤ nI c
        rw [hN.m, show mC σ = c by omega]
        exact Int32.le_refl _
    | succ d ih =>
      intro c k φ n f to g hc hE
      have hk := hE.2.2.2.1
      have hcm : c < mC σ := by omega
      have ec : (nI c).toNatClampNeg = c := nI_clamp (by omega)
      have hic : vp_in (nI c) 120 := vp_in_nI (by omega) (by omega)
      refine hC.go (fun q => if q = 7 then some 2 else none) 60 ?_
      refine ⟨fun h => ?_, fun _ => ⟨120, rfl, hic, fun h => ?_, fun h => ⟨120, rfl, hic, 120, rfl, hic, 120, rfl, hic, ?_⟩⟩⟩
      · exfalso
        have h : σ 1 1 ≤ nI c := h
        rw [hN.m] at h
        exact nI_ge hcm (by omega) h
      · have h : ¬ σ 6 (nI c).toNatClampNeg = 0 := h
        rw [ec] at h
        refine ⟨by decide, ?_⟩
        have key := ih (c + 1) k φ n f to g (by omega) (hE.skip (by unfold eA; rw [if_pos hcm]; unfold aC; rw [decide_eq_true_eq]; exact h))
        rw [← nI_1] at key
        exact key
      · have h : ¬ ¬ σ 6 (nI c).toNatClampNeg = 0 := h
        rw [ec] at h
        refine dk_cs (nI c, σ 3 (nI c).toNatClampNeg, σ 4 (nI c).toNatClampNeg, σ 5 (nI c).toNatClampNeg) rfl rfl rfl ⟨k, by omega, u33 (σ 18) (nI k)⟩ (fun _ σ1 hq => ?_)
        have hq := hq k (by omega) (u33 (σ 18) (nI k))
        rw [hq]
        refine ⟨by decide, ?_⟩
        have key := ih (c + 1) (k + 1) _ _ _ _ _ (by omega) (hE.add (x := nI c) (y := σ 3 (nI c).toNatClampNeg) (z := σ 4 (nI c).toNatClampNeg) (w := σ 5 (nI c).toNatClampNeg) (by unfold eA; rw [if_pos hcm]; unfold aC; rw [decide_eq_true_eq]; exact Classical.not_not.mp h) (by unfold eN; rw [if_pos hcm]) (by unfold eF; rw [if_pos hcm, ec]; exact (hN.u hcm).1) (by unfold eT; rw [if_pos hcm, ec]; exact (hN.v hcm).1) (by unfold eG; rw [if_pos hcm, ec]; rfl))
        rw [← nI_1 c] at key
        have e : S5 (S5 σ (upd (σ 18) 3 (nI k)) n f to g) (upd (upd (σ 18) 3 (nI k)) 3 (nI (k + 1))) (upd n k (nI c)) (upd f k (σ 3 (nI c).toNatClampNeg)) (upd to k (σ 4 (nI c).toNatClampNeg)) (upd g k (σ 5 (nI c).toNatClampNeg)) = S5 σ (upd (σ 18) 3 (nI (k + 1))) (upd n k (nI c)) (upd f k (σ 3 (nI c).toNatClampNeg)) (upd to k (σ 4 (nI c).toNatClampNeg)) (upd g k (σ 5 (nI c).toNatClampNeg)) := by
          rw [u3]
          funext q; unfold S5
          repeat' split
          all_goals rfl
        rw [← e] at key
        exact key
  refine hC.go (fun q => if q = 7 then some 2 else none) 60 ?_
  refine ⟨by decide, ?_⟩
  have key := loop1 (mC σ) 0 0 (fun _ => 0) (σ 20) (σ 21) (σ 22) (σ 23) (by omega) ⟨fun i hi => by omega, fun i j _ hj => by omega, fun q hq => by omega, by omega, rfl, fun i hi => by omega⟩
  have e : S5 σ (upd (σ 18) 3 (nI 0)) (σ 20) (σ 21) (σ 22) (σ 23) = dk_up σ 18 (upd (σ 18) 3 0) := by
    conv => rhs; rw [← S5_id (σ := σ)]
    rw [S5_18]
    rfl
  rw [e] at key
  exact key
