/-! Times.peakTime -/
theorem cn_cut (p : Nat → Bool) {k : Nat} : ∀ {n : Nat}, k ≤ n → cn (fun i => decide (i < k) && p i) n = cn p k := by
  intro n
  induction n with
  | zero => intro h; have : k = 0 := by omega
            subst this; rfl
  | succ n ih =>
    intro h
    by_cases e : k = n + 1
    · subst e
      exact cn_congr (fun i hi => by simp [hi])
    · simp only [cn]
      rw [ih (by omega)]
      simp [show ¬ n < k by omega]
/-- the first time with the most that run -/
def PK (x d : Nat → Int) (n : Nat) (P : Int) : Prop := 0 ≤ P ∧ (∀ s, cn (rn x d s) n ≤ cn (rn x d P) n) ∧ ∀ s, 0 ≤ s → s < P → cn (rn x d s) n < cn (rn x d P) n
theorem PK.unique {x d : Nat → Int} {n : Nat} {P Q : Int} (h : PK x d n P) (h' : PK x d n Q) : P = Q := by
  obtain ⟨a1, a2, a3⟩ := h
  obtain ⟨b1, b2, b3⟩ := h'
  have c1 := a2 Q
  have c2 := b2 P
  rcases Int.lt_trichotomy P Q with q | q | q
  · have := b3 P a1 q; omega
  · exact q
  · have := a3 Q b1 q; omega
theorem cn_pos {p : Nat → Bool} : ∀ {n : Nat}, 0 < cn p n → ∃ i, i < n ∧ p i = true := by
  intro n h
  apply Classical.byContradiction
  intro q
  have : cn p n = cn (fun _ => false) n := cn_congr (fun i hi => by
    cases e : p i with
    | false => rfl
    | true => exact absurd ⟨i, hi, e⟩ q)
  have z : ∀ m, cn (fun _ => false) m = 0 := by
    intro m
    induction m with
    | zero => rfl
    | succ m ih => simp [cn, ih]
  rw [z] at this
  omega
/-- the latest of the starts that have come by s -/
theorem last_start (x : Nat → Int) (p : Nat → Bool) : ∀ n : Nat, (∃ i, i < n ∧ p i = true) → ∃ i, i < n ∧ p i = true ∧ ∀ j, j < n → p j = true → x j ≤ x i := by
  intro n
  induction n with
  | zero => rintro ⟨i, hi, -⟩; omega
  | succ n ih =>
    rintro ⟨i, hi, hp⟩
    by_cases e : ∃ i, i < n ∧ p i = true
    · obtain ⟨k, hk, hk1, hk2⟩ := ih e
      by_cases q : p n = true ∧ x k ≤ x n
      · refine ⟨n, by omega, q.1, fun j hj hpj => ?_⟩
        by_cases c : j = n
        · rw [c]; omega
        · have := hk2 j (by omega) hpj; omega
      · refine ⟨k, by omega, hk1, fun j hj hpj => ?_⟩
        by_cases c : j = n
        · subst c
          have : ¬ x k ≤ x j := fun r => q ⟨hpj, r⟩
          omega
        · exact hk2 j (by omega) hpj
    · have hin : i = n := by
        apply Classical.byContradiction
        intro c
        exact e ⟨i, by omega, hp⟩
      subst hin
      refine ⟨i, by omega, hp, fun j hj hpj => ?_⟩
      by_cases c : j = i
      · rw [c]; omega
      · exact absurd ⟨j, by omega, hpj⟩ e
theorem rn_start {x d : Nat → Int} {n : Nat} {s : Int} (h : 0 < cn (rn x d s) n) : ∃ t, t < n ∧ x t ≤ s ∧ cn (rn x d s) n ≤ cn (rn x d (x t)) n := by
  obtain ⟨t, ht, h1, h2⟩ := last_start x (rn x d s) n (cn_pos h)
  have h1' := of_decide_eq_true h1
  refine ⟨t, ht, h1'.1, cn_mono (fun i hi hp => ?_)⟩
  have h3 := h2 i hi hp
  have h4 := of_decide_eq_true hp
  exact decide_eq_true (by omega)
abbrev sp_peakTime : dk_M := dk_sp 1 true (fun _ : Unit => [.inr 9]) (fun _ σ => NW σ ∧ (∃ k, k ≤ nC σ ∧ σ 9 1 = nI k) ∧ bd 20000000 (σ 10) ∧ ∀ t, t < (σ 9 1).toNatClampNeg → 0 ≤ toI (σ 10) t)
  (fun _ σ r σ' => σ' = σ ∧ PK (toI (σ 10)) (dC σ) (σ 9 1).toNatClampNeg r.toInt)
set_option maxRecDepth 100000 in
set_option maxHeartbeats 2000000 in
theorem q_peakTime : dk_pure (kX5_peakTime, fX5, [(84, sp_runningAt)], [(88, sp_bitCount)], [], 5, false) sp_peakTime := by
  refine dk_sp_pure (fun _ _ _ => rfl) (fun _ => rfl) ?_
  rintro OK _ σ ⟨hN, ⟨k, hk, hk1⟩, hB, h0⟩ hC
  have hn30 := hN.n30
  have ek : (σ 9 1).toNatClampNeg = k := by rw [hk1, nI_clamp (by omega)]
  rw [ek] at h0
  obtain ⟨cnt, hcnt⟩ : ∃ cnt : Int → Nat, cnt = fun s => cn (rn (toI (σ 10)) (dC σ) s) k := ⟨_, rfl⟩
  have hcle : ∀ s, cnt s ≤ 30 := fun s => by rw [hcnt]; have := cn_le (rn (toI (σ 10)) (dC σ) s) k; show cn (rn (toI (σ 10)) (dC σ) s) k ≤ 30; omega
  have loop : ∀ (n t m : Nat) (P : Int32), t + n = k → m ≤ 30 → ((m = 0 ∧ P = 0) ∨ (0 < m ∧ m = cnt P.toInt ∧ 0 ≤ P.toInt)) → (∀ s, s < t → cnt (toI (σ 10) s) ≤ m ∧ (0 < m → cnt (toI (σ 10) s) = m → P.toInt ≤ toI (σ 10) s)) → OK 6 [(0, .inr 9), (1, .inl (nI m)), (2, .inl P), (3, .inl (nI t))] [] σ := by
    intro n
    induction n with
    | zero =>
      intro t m P ht hm hmP hI
      have ht : k = t := by omega
      refine hC.go (fun q => if q = 6 then some 4 else none) 60 ?_
      refine ⟨fun _ => ⟨rfl, ?_⟩, fun h => ?_⟩
      · rw [ek]
        have hz : m = 0 → ∀ s, cnt s = 0 := fun e s => by
          apply Classical.byContradiction
          intro c
          rw [hcnt] at c
          obtain ⟨t', ht', q1, q2⟩ := rn_start (x := toI (σ 10)) (d := dC σ) (n := k) (s := s) (by have : ¬ cn (rn (toI (σ 10)) (dC σ) s) k = 0 := c; omega)
          have := (hI t' (by omega)).1
          rw [hcnt] at this
          have : cn (rn (toI (σ 10)) (dC σ) (toI (σ 10) t')) k ≤ m := this
          have : ¬ cn (rn (toI (σ 10)) (dC σ) s) k = 0 := c
          omega
        have e1 : ∀ s, cn (rn (toI (σ 10)) (dC σ) s) k = cnt s := fun s => by rw [hcnt]
        unfold PK
        simp only [e1]
        rcases hmP with ⟨hm0, hP0⟩ | ⟨hm0, hmc, hP0⟩
        · have hz := hz hm0
          rw [hP0]
          refine ⟨by decide, fun s => by rw [hz, hz]; omega, fun s h1 h2 => ?_⟩
          have : (0 : Int32).toInt = 0 := rfl
          omega
        · have mx : ∀ s, cnt s ≤ m := fun s => by
            by_cases c : 0 < cnt s
            · rw [← e1] at c
              obtain ⟨t', ht', q1, q2⟩ := rn_start c
              rw [e1, e1] at q2
              have := (hI t' (by omega)).1
              omega
            · omega
          refine ⟨hP0, fun s => by rw [← hmc]; exact mx s, fun s h1 h2 => ?_⟩
          rw [← hmc]
          apply Classical.byContradiction
          intro c
          have hs := mx s
          have c2 : 0 < cnt s := by omega
          rw [← e1] at c2
          obtain ⟨t', ht', q1, q2⟩ := rn_start c2
          rw [e1, e1] at q2
          have i1 := hI t' (by omega)
          have := i1.2 hm0 (by omega)
          omega
      · exfalso
        apply h
        show σ 9 1 ≤ nI t
        rw [hk1, ht]
        exact Int32.le_refl _
    | succ n ih =>
      intro t m P ht hm hmP hI
      have et : (nI t).toNatClampNeg = t := nI_clamp (by omega)
      have hit : vp_in (nI t) 31 := vp_in_nI (by omega) (by omega)
      refine hC.go (fun q => if q = 6 then some 4 else none) 60 ?_
      refine ⟨fun h => ?_, fun _ => ⟨31, rfl, hit, ?_⟩⟩
      · exfalso
        have h : σ 9 1 ≤ nI t := h
        rw [hk1, nI_leI (by omega) (by omega)] at h
        omega
      refine dk_cs (9, σ 10 (nI t).toNatClampNeg) rfl rfl rfl ⟨Or.inl rfl, hN, ⟨k, hk, hk1⟩, hB⟩ (fun r σ1 hq1 => ?_)
      obtain ⟨hσ1, hr⟩ := hq1
      rw [hσ1]
      refine dk_cs r rfl rfl rfl trivial (fun r2 σ2 hq2 => ?_)
      obtain ⟨hσ2, hr2⟩ := hq2
      rw [hσ2]
      have hr : ∀ i, i < 32 → bt r i = (decide (i < (σ 9 1).toNatClampNeg) && rn (toI (σ 10)) (dC σ) (σ 10 (nI t).toNatClampNeg).toInt i) := hr
      rw [ek, et] at hr
      have hr2 : r2 = nI (cnt (toI (σ 10) t)) := by
        have hr2 : r2 = nI (pop r) := hr2
        rw [hr2, hcnt]
        show nI (cn (bt r) 32) = nI (cn (rn (toI (σ 10)) (dC σ) (toI (σ 10) t)) k)
        rw [← cn_cut (rn (toI (σ 10)) (dC σ) (toI (σ 10) t)) (show k ≤ 32 by omega)]
        exact congrArg nI (cn_congr hr)
      have hc30 := hcle (toI (σ 10) t)
      obtain ⟨c, hc⟩ : ∃ c, c = cnt (toI (σ 10) t) := ⟨_, rfl⟩
      rw [← hc] at hr2 hc30
      subst hr2
      have yes : m ≤ c → (0 < c) → (c = m → toI (σ 10) t < P.toInt) → OK 6 [(0, .inr 9), (1, .inl (nI c)), (2, .inl (σ 10 (nI t).toNatClampNeg)), (3, .inl (nI t + 1))] [] σ := by
        intro h1 h2 h3
        rw [et, nI_1]
        refine ih (t + 1) c (σ 10 t) (by omega) hc30 (Or.inr ⟨h2, hc, h0 t (by omega)⟩) (fun s hs => ?_)
        by_cases e : s = t
        · subst e
          exact ⟨by omega, fun _ _ => Int.le_refl _⟩
        · have := hI s (by omega)
          refine ⟨by omega, fun _ q => ?_⟩
          have e2 : c = m := by omega
          have := this.2 (by omega) (by omega)
          have := h3 e2
          unfold toI at *
          omega
      have no : (c < m ∨ (c = m ∧ (0 < m → P.toInt ≤ toI (σ 10) t))) → OK 6 [(0, .inr 9), (1, .inl (nI m)), (2, .inl P), (3, .inl (nI t + 1))] [] σ := by
        intro h1
        rw [nI_1]
        refine ih (t + 1) m P (by omega) hm hmP (fun s hs => ?_)
        by_cases e : s = t
        · subst e
          rw [← hc]
          rcases h1 with h1 | ⟨h1, h2⟩
          · exact ⟨by omega, fun _ q => by omega⟩
          · exact ⟨by omega, fun q _ => h2 q⟩
        · exact hI s (by omega)
      have gt : ∀ {h : nI m < nI c}, m < c := fun {h} => by rw [nI_ltI (by omega) (by omega)] at h; exact h
      have ngt : ∀ {h : ¬ nI m < nI c}, c ≤ m := fun {h} => by rw [nI_ltI (by omega) (by omega)] at h; omega
      refine ⟨by decide, fun h => ⟨by decide, 31, rfl, hit, by decide, by decide, ?_⟩, fun h => ⟨fun h2 => ⟨by decide, no ?_⟩, fun h2 => ⟨31, rfl, hit, fun h3 => ⟨by decide, no ?_⟩, fun h3 => ⟨by decide, 31, rfl, hit, by decide, by decide, ?_⟩⟩⟩⟩
      · have h1 := gt (h := h)
        exact yes (by omega) (by omega) (fun e => by omega)
      · have h1 := ngt (h := h)
        have h2 : ¬ nI c = nI m := h2
        rw [nI_eq (by omega) (by omega)] at h2
        exact Or.inl (by omega)
      · have h2 : ¬ ¬ nI c = nI m := h2
        rw [nI_eq (by omega) (by omega)] at h2
        have h3 : P ≤ σ 10 (nI t).toNatClampNeg := h3
        rw [et, dk_le] at h3
        exact Or.inr ⟨Classical.not_not.mp h2, fun _ => h3⟩
      · have h2 : ¬ ¬ nI c = nI m := h2
        rw [nI_eq (by omega) (by omega)] at h2
        have h2 := Classical.not_not.mp h2
        have h3 : ¬ P ≤ σ 10 (nI t).toNatClampNeg := h3
        rw [et, dk_le] at h3
        have h4 := h0 t (by omega)
        refine yes (by omega) ?_ (fun _ => by unfold toI; omega)
        apply Classical.byContradiction
        intro hz
        rcases hmP with ⟨-, e⟩ | ⟨q, -⟩
        · rw [e] at h3
          have : (0 : Int32).toInt = 0 := rfl
          unfold toI at h4
          omega
        · omega
  refine hC.go (fun q => if q = 6 then some 4 else none) 60 ?_
  exact ⟨by decide, by decide, by decide, loop k 0 0 0 (by omega) (by omega) (Or.inl ⟨rfl, rfl⟩) (fun s hs => by omega)⟩
