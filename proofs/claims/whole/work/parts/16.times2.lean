/-! runningAt, sameAs, freeOf, findDelayed -/
/-- does the task run at the time s -/
def rn (x d : Nat → Int) (s : Int) (i : Nat) : Bool := decide (x i ≤ s ∧ s < x i + d i)
abbrev sp_runningAt : dk_M := dk_sp 2 true (fun x : Nat × Int32 => [.inr x.1, .inl x.2]) (fun x σ => (x.1 = 9 ∨ x.1 = 12) ∧ NW σ ∧ (∃ k, k ≤ nC σ ∧ σ x.1 1 = nI k) ∧ bd 20000000 (σ (x.1 + 1)))
  (fun x σ r σ' => σ' = σ ∧ ∀ i, i < 32 → bt r i = (decide (i < (σ x.1 1).toNatClampNeg) && rn (toI (σ (x.1 + 1))) (dC σ) x.2.toInt i))
set_option maxRecDepth 100000 in
set_option maxHeartbeats 2000000 in
theorem q_runningAt_9 (OK : Nat → dk_L → List dk_V → dk_S → Prop) (σ : dk_S) (s : Int32) (hN : NW σ) (k : Nat) (hk : k ≤ nC σ) (hk1 : σ 9 1 = nI k) (hB : bd 20000000 (σ 10)) (hC : dk_ok (kX5_runningAt, fX5, [], [], [], 4, false) (fun r σ' => σ' = σ ∧ ∀ i, i < 32 → bt r i = (decide (i < (σ 9 1).toNatClampNeg) && rn (toI (σ 10)) (dC σ) s.toInt i)) OK) : OK 0 [(0, .inr 9), (1, .inl s)] [] σ := by
  have hn30 := hN.n30
  have loop : ∀ (d t : Nat) (r : Int32), t + d = k → (∀ i, i < 32 → bt r i = (decide (i < t) && rn (toI (σ 10)) (dC σ) s.toInt i)) → OK 4 [(0, .inr 9), (1, .inl s), (2, .inl r), (3, .inl (nI t))] [] σ := by
    intro d
    induction d with
    | zero =>
      intro t r ht hr
      refine hC.go (fun q => if q = 4 then some 4 else none) 60 ?_
      refine ⟨fun _ => ⟨rfl, ?_⟩, fun h => ?_⟩
      · rw [hk1, nI_clamp (by omega), show k = t by omega]
        exact hr
      · exfalso
        apply h
        show σ 9 1 ≤ nI t
        rw [hk1, show k = t by omega]
        exact Int32.le_refl _
    | succ d ih =>
      intro t r ht hr
      have et : (nI t).toNatClampNeg = t := nI_clamp (by omega)
      have hdt := hN.d (show t < nC σ by omega)
      have hbt := hB t (by omega)
      have hadd : (σ 10 t + σ 2 t).toInt = toI (σ 10) t + dC σ t := dk_add (by unfold dC at hdt; omega) (by unfold dC at hdt; omega)
      have hno : ∀ r', r' = r → rn (toI (σ 10)) (dC σ) s.toInt t = false → OK 4 [(0, .inr 9), (1, .inl s), (2, .inl r'), (3, .inl (nI t + 1))] [] σ := by
        intro r' hr' hrn
        rw [nI_1, hr']
        refine ih (t + 1) r (by omega) (fun i hi => ?_)
        rw [hr i hi]
        by_cases e : i = t
        · subst e
          rw [hrn]
          simp
        · by_cases e2 : i < t
          · simp [e2, show i < t + 1 by omega]
          · simp [e2, show ¬ i < t + 1 by omega]
      refine hC.go (fun q => if q = 4 then some 4 else none) 60 ?_
      refine ⟨fun h => ?_, fun _ => ⟨31, rfl, vp_in_nI (by omega) (by omega), fun h => ?_, fun h => ⟨31, rfl, vp_in_nI (by omega) (by omega), 30, rfl, vp_in_nI (by omega) (by omega), fun h2 => ?_, fun h2 => ?_⟩⟩⟩
      · exfalso
        have h : σ 9 1 ≤ nI t := h
        rw [hk1] at h
        exact nI_ge (by omega) (by omega) h
      · refine ⟨by decide, hno r rfl ?_⟩
        have h : s < σ 10 (nI t).toNatClampNeg := h
        rw [et, dk_lt] at h
        unfold rn toI
        rw [decide_eq_false]
        omega
      · refine ⟨by decide, hno r rfl ?_⟩
        have h2 : σ 10 (nI t).toNatClampNeg + σ 2 (nI t).toNatClampNeg ≤ s := h2
        rw [et, dk_le, hadd] at h2
        unfold rn
        rw [decide_eq_false]
        omega
      · refine ⟨by decide, by decide, ?_⟩
        have h : ¬ s < σ 10 (nI t).toNatClampNeg := h
        have h2 : ¬ σ 10 (nI t).toNatClampNeg + σ 2 (nI t).toNatClampNeg ≤ s := h2
        rw [et, dk_lt] at h
        rw [et, dk_le, hadd] at h2
        have key := ih (t + 1) (r ||| (1 : Int32) <<< (nI t &&& 31)) (by omega) (fun i hi => ?_)
        · rw [← nI_1] at key
          exact key
        · rw [b_or, b_bit (by omega) hi, hr i hi]
          have hrn : rn (toI (σ 10)) (dC σ) s.toInt t = true := by
            unfold rn
            apply decide_eq_true
            unfold toI at h2 ⊢
            omega
          by_cases e : i = t
          · subst e
            rw [hrn]
            simp
          · by_cases e2 : i < t
            · simp [e2, e, show i < t + 1 by omega]
            · simp [e2, e, show ¬ i < t + 1 by omega]
  refine hC.go (fun q => if q = 4 then some 4 else none) 60 ?_
  refine ⟨by decide, by decide, ?_⟩
  exact loop k 0 0 (by omega) (fun i hi => by rw [b_0]; simp)
set_option maxRecDepth 100000 in
set_option maxHeartbeats 2000000 in
theorem q_runningAt_12 (OK : Nat → dk_L → List dk_V → dk_S → Prop) (σ : dk_S) (s : Int32) (hN : NW σ) (k : Nat) (hk : k ≤ nC σ) (hk1 : σ 12 1 = nI k) (hB : bd 20000000 (σ 13)) (hC : dk_ok (kX5_runningAt, fX5, [], [], [], 4, false) (fun r σ' => σ' = σ ∧ ∀ i, i < 32 → bt r i = (decide (i < (σ 12 1).toNatClampNeg) && rn (toI (σ 13)) (dC σ) s.toInt i)) OK) : OK 0 [(0, .inr 12), (1, .inl s)] [] σ := by
  have hn30 := hN.n30
  have loop : ∀ (d t : Nat) (r : Int32), t + d = k → (∀ i, i < 32 → bt r i = (decide (i < t) && rn (toI (σ 13)) (dC σ) s.toInt i)) → OK 4 [(0, .inr 12), (1, .inl s), (2, .inl r), (3, .inl (nI t))] [] σ := by
    intro d
    induction d with
    | zero =>
      intro t r ht hr
      refine hC.go (fun q => if q = 4 then some 4 else none) 60 ?_
      refine ⟨fun _ => ⟨rfl, ?_⟩, fun h => ?_⟩
      · rw [hk1, nI_clamp (by omega), show k = t by omega]
        exact hr
      · exfalso
        apply h
        show σ 12 1 ≤ nI t
        rw [hk1, show k = t by omega]
        exact Int32.le_refl _
    | succ d ih =>
      intro t r ht hr
      have et : (nI t).toNatClampNeg = t := nI_clamp (by omega)
      have hdt := hN.d (show t < nC σ by omega)
      have hbt := hB t (by omega)
      have hadd : (σ 13 t + σ 2 t).toInt = toI (σ 13) t + dC σ t := dk_add (by unfold dC at hdt; omega) (by unfold dC at hdt; omega)
      have hno : ∀ r', r' = r → rn (toI (σ 13)) (dC σ) s.toInt t = false → OK 4 [(0, .inr 12), (1, .inl s), (2, .inl r'), (3, .inl (nI t + 1))] [] σ := by
        intro r' hr' hrn
        rw [nI_1, hr']
        refine ih (t + 1) r (by omega) (fun i hi => ?_)
        rw [hr i hi]
        by_cases e : i = t
        · subst e
          rw [hrn]
          simp
        · by_cases e2 : i < t
          · simp [e2, show i < t + 1 by omega]
          · simp [e2, show ¬ i < t + 1 by omega]
      refine hC.go (fun q => if q = 4 then some 4 else none) 60 ?_
      refine ⟨fun h => ?_, fun _ => ⟨31, rfl, vp_in_nI (by omega) (by omega), fun h => ?_, fun h => ⟨31, rfl, vp_in_nI (by omega) (by omega), 30, rfl, vp_in_nI (by omega) (by omega), fun h2 => ?_, fun h2 => ?_⟩⟩⟩
      · exfalso
        have h : σ 12 1 ≤ nI t := h
        rw [hk1] at h
        exact nI_ge (by omega) (by omega) h
      · refine ⟨by decide, hno r rfl ?_⟩
        have h : s < σ 13 (nI t).toNatClampNeg := h
        rw [et, dk_lt] at h
        unfold rn toI
        rw [decide_eq_false]
        omega
      · refine ⟨by decide, hno r rfl ?_⟩
        have h2 : σ 13 (nI t).toNatClampNeg + σ 2 (nI t).toNatClampNeg ≤ s := h2
        rw [et, dk_le, hadd] at h2
        unfold rn
        rw [decide_eq_false]
        omega
      · refine ⟨by decide, by decide, ?_⟩
        have h : ¬ s < σ 13 (nI t).toNatClampNeg := h
        have h2 : ¬ σ 13 (nI t).toNatClampNeg + σ 2 (nI t).toNatClampNeg ≤ s := h2
        rw [et, dk_lt] at h
        rw [et, dk_le, hadd] at h2
        have key := ih (t + 1) (r ||| (1 : Int32) <<< (nI t &&& 31)) (by omega) (fun i hi => ?_)
        · rw [← nI_1] at key
          exact key
        · rw [b_or, b_bit (by omega) hi, hr i hi]
          have hrn : rn (toI (σ 13)) (dC σ) s.toInt t = true := by
            unfold rn
            apply decide_eq_true
            unfold toI at h2 ⊢
            omega
          by_cases e : i = t
          · subst e
            rw [hrn]
            simp
          · by_cases e2 : i < t
            · simp [e2, e, show i < t + 1 by omega]
            · simp [e2, e, show ¬ i < t + 1 by omega]
  refine hC.go (fun q => if q = 4 then some 4 else none) 60 ?_
  refine ⟨by decide, by decide, ?_⟩
  exact loop k 0 0 (by omega) (fun i hi => by rw [b_0]; simp)
theorem q_runningAt : dk_pure (kX5_runningAt, fX5, [], [], [], 4, false) sp_runningAt := by
  refine dk_sp_pure (fun x x' e => by obtain ⟨a, b⟩ := x; obtain ⟨c, d⟩ := x'; cases e; rfl) (fun _ => rfl) ?_
  rintro OK ⟨T, s⟩ σ ⟨hT, hN, ⟨k, hk, hk1⟩, hB⟩ hC
  rcases hT with h | h
  · have h : T = 9 := h
    subst h
    exact q_runningAt_9 OK σ s hN k hk hk1 hB hC
  · have h : T = 12 := h
    subst h
    exact q_runningAt_12 OK σ s hN k hk hk1 hB hC
abbrev sp_sameAs : dk_M := dk_sp 2 true (fun _ : Unit => [.inr 12, .inr 9]) (fun _ σ => ∃ k, k ≤ 30 ∧ σ 12 1 = nI k)
  (fun _ σ r σ' => σ' = σ ∧ ((r = 1 ∧ σ 12 1 = σ 9 1 ∧ σ 12 2 = σ 9 2 ∧ ∀ t, t < (σ 12 1).toNatClampNeg → σ 13 t = σ 10 t ∧ σ 14 t = σ 11 t) ∨ (r = 0 ∧ ¬ (σ 12 1 = σ 9 1 ∧ σ 12 2 = σ 9 2 ∧ ∀ t, t < (σ 12 1).toNatClampNeg → σ 13 t = σ 10 t ∧ σ 14 t = σ 11 t))))
set_option maxRecDepth 100000 in
set_option maxHeartbeats 2000000 in
theorem q_sameAs : dk_pure (kX5_sameAs, fX5, [], [], [], 3, true) sp_sameAs := by
  refine dk_sp_pure (fun _ _ _ => rfl) (fun _ => rfl) ?_
  rintro OK _ σ ⟨k, hk, hk1⟩ hC
  have ek : (σ 12 1).toNatClampNeg = k := by rw [hk1, nI_clamp (by omega)]
  have loop : ∀ (d t : Nat), t + d = k → σ 12 1 = σ 9 1 → σ 12 2 = σ 9 2 → (∀ i, i < t → σ 13 i = σ 10 i ∧ σ 14 i = σ 11 i) → OK 26 [(0, .inr 12), (1, .inr 9), (2, .inl (nI t))] [] σ := by
    intro d
    induction d with
    | zero =>
      intro t ht h1 h2 h3
      refine hC.go (fun q => if q = 26 then some 3 else none) 60 ?_
      refine ⟨fun _ => ⟨Or.inr rfl, rfl, Or.inl ⟨rfl, h1, h2, ?_⟩⟩, fun h => ?_⟩
      · rw [ek]
        intro i hi
        exact h3 i (by omega)
      · exfalso
        apply h
        show σ 12 1 ≤ nI t
        rw [hk1, show k = t by omega]
        exact Int32.le_refl _
    | succ d ih =>
      intro t ht h1 h2 h3
      have et : (nI t).toNatClampNeg = t := nI_clamp (by omega)
      refine hC.go (fun q => if q = 26 then some 3 else none) 60 ?_
      refine ⟨fun h => ?_, fun _ => ⟨31, rfl, vp_in_nI (by omega) (by omega), 31, rfl, vp_in_nI (by omega) (by omega), fun h => ⟨Or.inl rfl, rfl, Or.inr ⟨rfl, ?_⟩⟩, fun h => ⟨31, rfl, vp_in_nI (by omega) (by omega), 31, rfl, vp_in_nI (by omega) (by omega), fun h4 => ?_, fun h4 => ⟨Or.inl rfl, rfl, Or.inr ⟨rfl, ?_⟩⟩⟩⟩⟩
      · exfalso
        have h : σ 12 1 ≤ nI t := h
        rw [hk1] at h
        exact nI_ge (by omega) (by omega) h
      · have h : ¬ σ 13 (nI t).toNatClampNeg = σ 10 (nI t).toNatClampNeg := h
        rw [et] at h
        rintro ⟨-, -, q⟩
        rw [ek] at q
        exact h (q t (by omega)).1
      · have h : ¬ ¬ σ 13 (nI t).toNatClampNeg = σ 10 (nI t).toNatClampNeg := h
        have h4 : σ 14 (nI t).toNatClampNeg = σ 11 (nI t).toNatClampNeg := h4
        rw [et] at h h4
        refine ⟨by decide, ?_⟩
        have key := ih (t + 1) (by omega) h1 h2 (fun i hi => by
          by_cases e : i = t
          · subst e; exact ⟨Classical.not_not.mp h, h4⟩
          · exact h3 i (by omega))
        rw [← nI_1] at key
        exact key
      · have h4 : ¬ σ 14 (nI t).toNatClampNeg = σ 11 (nI t).toNatClampNeg := h4
        rw [et] at h4
        rintro ⟨-, -, q⟩
        rw [ek] at q
        exact h4 (q t (by omega)).2
  refine hC.go (fun q => if q = 26 then some 3 else none) 60 ?_
  refine ⟨fun h => ⟨Or.inl rfl, rfl, Or.inr ⟨rfl, fun q => h q.1⟩⟩, fun h => ⟨fun h2 => ⟨by decide, ?_⟩, fun h2 => ⟨Or.inl rfl, rfl, Or.inr ⟨rfl, fun q => h2 q.2.1⟩⟩⟩⟩
  exact loop k 0 (by omega) (Classical.not_not.mp h) h2 (fun i hi => by omega)
/-- FREE, constraint by constraint -/
def fr (a : Nat → Bool) (u v : Nat → Nat) (g x : Nat → Int) (t : Nat) (i0 : Int) : Nat → Int
  | 0 => i0
  | c + 1 => if a c = true ∧ u c = t ∧ ¬ v c = t ∧ x (v c) - x t - g c < fr a u v g x t i0 c then x (v c) - x t - g c else fr a u v g x t i0 c
theorem fr_congr {a a' : Nat → Bool} {u u' v v' : Nat → Nat} {g g' x x' : Nat → Int} {t : Nat} {i0 : Int} : ∀ {m : Nat}, (∀ c, c < m → a c = a' c ∧ u c = u' c ∧ v c = v' c ∧ g c = g' c ∧ x (v c) = x' (v c)) → x t = x' t → fr a u v g x t i0 m = fr a' u' v' g' x' t i0 m := by
  intro m
  induction m with
  | zero => intro _ _; rfl
  | succ m ih =>
    intro h ht
    obtain ⟨h1, h2, h3, h4, h5⟩ := h m (by omega)
    simp only [fr]
    rw [ih (fun c hc => h c (by omega)) ht, ← h1, ← h2, ← h3, ← h4, h5, ht]
theorem fr_bd {a : Nat → Bool} {u v : Nat → Nat} {g x : Nat → Int} {t : Nat} {i0 B : Int} (h0 : -B ≤ i0 ∧ i0 ≤ B) : ∀ {m : Nat}, (∀ c, c < m → -B ≤ x (v c) - x t - g c ∧ x (v c) - x t - g c ≤ B) → -B ≤ fr a u v g x t i0 m ∧ fr a u v g x t i0 m ≤ B := by
  intro m
  induction m with
  | zero => intro _; exact h0
  | succ m ih =>
    intro h
    have h1 := ih (fun c hc => h c (by omega))
    have h2 := h m (by omega)
    simp only [fr]
    split <;> omega
abbrev sp_freeOf : dk_M := dk_sp 2 true (fun t : Int32 => [.inr 9, .inl t]) (fun t σ => NW σ ∧ (∃ k, k < nC σ ∧ t = nI k) ∧ bd 20000000 (σ 10) ∧ -20000000 ≤ (σ 9 2).toInt ∧ (σ 9 2).toInt ≤ 20000000)
  (fun t σ r σ' => σ' = σ ∧ r.toInt = fr (aC σ) (uC σ) (vC σ) (gC σ) (toI (σ 10)) t.toNatClampNeg ((σ 9 2).toInt - toI (σ 10) t.toNatClampNeg - dC σ t.toNatClampNeg) (mC σ))
set_option maxRecDepth 100000 in
set_option maxHeartbeats 4000000 in
theorem q_freeOf : dk_pure (kX5_freeOf, fX5, [], [(81, sp_min)], [], 5, false) sp_freeOf := by
  refine dk_sp_pure (fun x x' e => by cases e; rfl) (fun _ => rfl) ?_
  rintro OK t σ ⟨hN, ⟨k, hk, rfl⟩, hB, hl1, hl2⟩ hC
  have hn30 := hN.n30
  have hm := hN.m120
  have ek : (nI k).toNatClampNeg = k := nI_clamp (by omega)
  have hik : vp_in (nI k) 31 := vp_in_nI (by omega) (by omega)
  have hik0 : vp_in (nI k) 30 := vp_in_nI (by omega) (by omega)
  have hbk := hB k (by omega)
  have hdk := hN.d hk
  have hs1 : (σ 9 2 - σ 10 k).toInt = (σ 9 2).toInt - toI (σ 10) k := dk_sub (by omega) (by omega)
  have hs2 : (σ 9 2 - σ 10 k - σ 2 k).toInt = (σ 9 2).toInt - toI (σ 10) k - dC σ k := by
    have : (σ 9 2 - σ 10 k - σ 2 k).toInt = (σ 9 2 - σ 10 k).toInt - (σ 2 k).toInt := dk_sub (by rw [hs1]; unfold toI; unfold dC at hdk; omega) (by rw [hs1]; unfold toI; unfold dC at hdk; omega)
    rw [this, hs1]; rfl
  have loop : ∀ (d c : Nat) (r x4 : Int32) (extra : dk_L), extra = [] ∨ extra = [(4, .inl x4)] → c + d = mC σ → r.toInt = fr (aC σ) (uC σ) (vC σ) (gC σ) (toI (σ 10)) k ((σ 9 2).toInt - toI (σ 10) k - dC σ k) c → OK 24 [(0, .inr 9), (1, .inl (nI k)), (2, .inl r), (3, .inl (nI c))] [] σ := by
    intro d
    induction d with
    | zero =>
      intro c r x4 ex _ hc hr
      refine hC.go (fun q => if q = 24 then some 4 else none) 60 ?_
      refine ⟨fun _ => ⟨rfl, ?_⟩, fun h => ?_⟩
      · rw [ek, hr, show c = mC σ by omega]
      · exfalso
        apply h
        show σ 1 1 ≤ nI c
        rw [hN.m, show c = mC σ by omega]
        exact Int32.le_refl _
    | succ d ih =>
      intro c r x4 ex _ hc hr
      have ec : (nI c).toNatClampNeg = c := nI_clamp (by omega)
      have hic : vp_in (nI c) 120 := vp_in_nI (by omega) (by omega)
      obtain ⟨hu1, hu2, hu3⟩ := hN.u (show c < mC σ by omega)
      obtain ⟨hv1, hv2, hv3⟩ := hN.v (show c < mC σ by omega)
      have hg := hN.g (show c < mC σ by omega)
      have hbv := hB _ hv3
      have hiv : vp_in (σ 4 (nI c).toNatClampNeg) 31 := by rw [ec, hv1]; exact vp_in_nI hv3 (by omega)
      have hno : ∀ r', r' = r → ¬ (aC σ c = true ∧ uC σ c = k ∧ ¬ vC σ c = k) → OK 24 [(0, .inr 9), (1, .inl (nI k)), (2, .inl r'), (3, .inl (nI c + 1))] [] σ := by
        intro r' hr' hh
        rw [nI_1, hr']
        refine ih (c + 1) r x4 [] (Or.inl rfl) (by omega) ?_
        rw [hr]
        simp only [fr]
        rw [if_neg (fun q => hh ⟨q.1, q.2.1, q.2.2.1⟩)]
      refine hC.go (fun q => if q = 24 then some 4 else none) 60 ?_
      refine ⟨fun h => ?_, fun _ => ⟨120, rfl, hic, by decide, 120, rfl, hic, fun h => ⟨by decide, hno r rfl ?_⟩, fun h => ⟨120, rfl, hic, fun h2 => ⟨by decide, hno r rfl ?_⟩, fun h2 => ⟨fun h3 => ⟨by decide, hno r rfl ?_⟩, fun h3 => ⟨31, rfl, hiv, 31, rfl, hik, 120, rfl, hic, ?_⟩⟩⟩⟩⟩
      · exfalso
        have h : σ 1 1 ≤ nI c := h
        rw [hN.m] at h
        exact nI_ge (by omega) (by omega) h
      · have h : ¬ σ 6 (nI c).toNatClampNeg = 0 := h
        rw [ec] at h
        intro q
        exact h (of_decide_eq_true q.1)
      · have h2 : ¬ σ 3 (nI c).toNatClampNeg = nI k := h2
        rw [ec, hu1] at h2
        intro q
        exact h2 (by rw [q.2.1])
      · have h3 : σ 4 (nI c).toNatClampNeg = nI k := h3
        rw [ec, hv1, nI_eq (by omega) (by omega)] at h3
        intro q
        exact q.2.2 h3
      · have h : ¬ ¬ σ 6 (nI c).toNatClampNeg = 0 := h
        have h2 : ¬ ¬ σ 3 (nI c).toNatClampNeg = nI k := h2
        have h3 : ¬ σ 4 (nI c).toNatClampNeg = nI k := h3
        rw [ec] at h
        rw [ec, hu1] at h2
        rw [ec, hv1] at h3
        have q1 : aC σ c = true := decide_eq_true (Classical.not_not.mp h)
        have q2 : uC σ c = k := by have := Classical.not_not.mp h2; rwa [nI_eq (by omega) (by omega)] at this
        have q3 : ¬ vC σ c = k := fun e => h3 (by rw [e])
        have hs3 : (σ 10 (vC σ c) - σ 10 k).toInt = toI (σ 10) (vC σ c) - toI (σ 10) k := dk_sub (by omega) (by omega)
        have hs4 : (σ 10 (vC σ c) - σ 10 k - σ 5 c).toInt = toI (σ 10) (vC σ c) - toI (σ 10) k - gC σ c := by
          have : (σ 10 (vC σ c) - σ 10 k - σ 5 c).toInt = (σ 10 (vC σ c) - σ 10 k).toInt - (σ 5 c).toInt := dk_sub (by rw [hs3]; unfold toI; unfold gC at hg; omega) (by rw [hs3]; unfold toI; unfold gC at hg; omega)
          rw [this, hs3]; rfl
        refine dk_cs (r, σ 10 (σ 4 (nI c).toNatClampNeg).toNatClampNeg - σ 10 (nI k).toNatClampNeg - σ 5 (nI c).toNatClampNeg) rfl rfl rfl trivial (fun r2 σ2 hq => ?_)
        obtain ⟨hσ2, hr2⟩ := hq
        rw [hσ2]
        refine ⟨by decide, by decide, ?_⟩
        have key := ih (c + 1) r2 x4 [] (Or.inl rfl) (by omega) ?_
        · rw [← nI_1] at key
          exact key
        · rw [hr2]
          simp only [fr]
          rw [ec, ek, show (σ 4 c).toNatClampNeg = vC σ c from rfl]
          by_cases e : σ 10 (vC σ c) - σ 10 k - σ 5 c < r
          · have e' := e
            rw [dk_lt, hs4, hr] at e'
            rw [if_pos e, hs4, if_pos ⟨q1, q2, q3, e'⟩]
          · rw [if_neg e, hr, if_neg]
            rintro ⟨-, -, -, q⟩
            apply e
            rw [dk_lt, hs4, hr]
            exact q
  refine hC.go (fun q => if q = 24 then some 4 else none) 60 ?_
  refine ⟨31, rfl, hik, 30, rfl, hik0, by decide, by decide, ?_⟩
  exact loop (mC σ) 0 _ 0 [] (Or.inl rfl) (by omega) (by rw [ek]; exact hs2)
/-- the least starts not below b, with the origin's 0 -/
def LSb (a : Nat → Bool) (u v : Nat → Nat) (g : Nat → Int) (m : Nat) (b x : Nat → Int) : Prop := bf_sol a u v g m x ∧ (∀ j, j < 31 → b j ≤ x j) ∧ x 30 = 0 ∧ ∀ z, bf_sol a u v g m z → (∀ j, j < 31 → b j ≤ z j) → ∀ j, j < 31 → x j ≤ z j
def FEb (a : Nat → Bool) (u v : Nat → Nat) (g : Nat → Int) (m : Nat) (b : Nat → Int) : Prop := ∃ z, bf_sol a u v g m z ∧ (∀ j, j < 31 → b j ≤ z j) ∧ z 30 = 0
theorem LSb.unique {a : Nat → Bool} {u v : Nat → Nat} {g : Nat → Int} {m : Nat} {b x y : Nat → Int} (h1 : LSb a u v g m b x) (h2 : LSb a u v g m b y) : ∀ j, j < 31 → x j = y j := fun j hj => Int.le_antisymm (h1.2.2.2 y h2.1 h2.2.1 j hj) (h2.2.2.2 x h1.1 h1.2.1 j hj)
/-- the bound that a delay makes -/
def db (x : Nat → Int) (t : Nat) (by_ : Int) : Nat → Int := fun j => if j = t then x t + by_ else 0
abbrev sp_copy : dk_M := dk_sp 5 false (fun x : Nat × Nat => [.inr x.1, .inl 0, .inr x.2, .inl 0, .inl 31]) (fun x _ => dk_arr x.1 = some (false, 31) ∧ dk_arr x.2 = some (false, 31)) (fun x σ _ σ' => σ' = dk_up σ x.2 (fun j => if j < 31 then σ x.1 j else σ x.2 j))
abbrev sp_findDelayed : dk_M := dk_sp 4 true (fun x : Int32 × Int32 => [.inr 12, .inr 9, .inl x.1, .inl x.2]) (fun x σ => NW σ ∧ ES (aC σ) (uC σ) (vC σ) (gC σ) (mC σ) (toI (σ 10)) ∧ bd 4000000 (σ 10) ∧ (∃ k, k < nC σ ∧ x.1 = nI k) ∧ 0 ≤ x.2.toInt ∧ x.2.toInt ≤ 1000)
  (fun x σ r σ' => ∃ c f, σ' = dk_up (dk_up σ 12 c) 13 f ∧ ((r = 1 ∧ LSb (aC σ) (uC σ) (vC σ) (gC σ) (mC σ) (db (toI (σ 10)) x.1.toNatClampNeg x.2.toInt) (toI f) ∧ (c 2).toInt = pl_len (dC σ) (toI f) (nC σ)) ∨ (r = 0 ∧ ¬ FEb (aC σ) (uC σ) (vC σ) (gC σ) (mC σ) (db (toI (σ 10)) x.1.toNatClampNeg x.2.toInt))))
set_option maxRecDepth 100000 in
set_option maxHeartbeats 4000000 in
theorem q_findDelayed : dk_pure (kX5_findDelayed, fX5, [(28, sp_ffe)], [(48, sp_copy)], [], 4, true) sp_findDelayed := by
  refine dk_sp_pure (fun x x' e => by obtain ⟨a, b⟩ := x; obtain ⟨c, d⟩ := x'; cases e; rfl) (fun _ => rfl) ?_
  rintro OK ⟨t, w⟩ σ ⟨hN, hES, hB, ⟨k, hk, hkt⟩, hw1, hw2⟩ hC
  have hkt : t = nI k := hkt
  subst hkt
  have hw1 : 0 ≤ w.toInt := hw1
  have hw2 : w.toInt ≤ 1000 := hw2
  have hn30 := hN.n30
  have ek : (nI k).toNatClampNeg = k := nI_clamp (by omega)
  have hbk := hB k (by omega)
  have hadd : (σ 10 k + w).toInt = (σ 10 k).toInt + w.toInt := dk_add (by omega) (by omega)
  obtain ⟨f0, hf0⟩ : ∃ f0, f0 = upd (fun j => if j < 31 then σ 10 j else σ 13 j) k (σ 10 k + w) := ⟨_, rfl⟩
  have hv0 : ∀ j, j < 31 → toI f0 j = if j = k then toI (σ 10) k + w.toInt else toI (σ 10) j := by
    intro j hj
    rw [hf0]
    unfold toI upd
    by_cases e : j = k
    · rw [if_pos e, if_pos e, hadd]
    · rw [if_neg e, if_neg e]
      try dsimp only
      rw [if_pos hj]
  have hE := hES.2.1
  have hge0 : ∀ j, j < 31 → 0 ≤ toI f0 j ∧ toI (σ 10) j ≤ toI f0 j := fun j hj => by
    rw [hv0 j hj]
    have h1 := hE j hj
    have h2 := hE k (by omega)
    split
    · next e => subst e; omega
    · omega
  refine hC.go (fun _ => none) 60 ?_
  refine dk_cs (10, 13) rfl rfl rfl ⟨rfl, rfl⟩ (fun _ σ1 hq => ?_)
  subst hq
  refine ⟨31, rfl, vp_in_nI (by omega) (by omega), 31, rfl, vp_in_nI (by omega) (by omega), ?_⟩
  have hS : dk_up (dk_up σ 13 (fun j => if j < 31 then σ 10 j else σ 13 j)) 13 (upd (dk_up σ 13 (fun j => if j < 31 then σ 10 j else σ 13 j) 13) (nI k).toNatClampNeg ((dk_up σ 13 (fun j => if j < 31 then σ 10 j else σ 13 j) 13) (nI k).toNatClampNeg + w)) = dk_up σ 13 f0 := by
    rw [dk_up_up, dk_up_self, ek, hf0]
    try dsimp only
    rw [if_pos (show k < 31 by omega)]
  show dk_call sp_ffe [.inr 12] (dk_up (dk_up σ 13 (fun j => if j < 31 then σ 10 j else σ 13 j)) 13 (upd (dk_up σ 13 (fun j => if j < 31 then σ 10 j else σ 13 j) 13) (nI k).toNatClampNeg ((dk_up σ 13 (fun j => if j < 31 then σ 10 j else σ 13 j) 13) (nI k).toNatClampNeg + w))) _
  rw [hS]
  refine dk_cs 12 rfl rfl rfl ⟨Or.inr rfl, hN.up (by decide), fun j hj => ?_, ?_, fun t ht => ?_⟩ (fun r σ2 hq => ?_)
  · show -10000000 ≤ (f0 j).toInt ∧ (f0 j).toInt ≤ 10000000
    have h1 := hv0 j hj
    have h2 := hB j hj
    unfold toI at h1
    rw [h1]
    split <;> omega
  · show (f0 30).toInt ≤ 0
    have h1 := hv0 30 (by omega)
    unfold toI at h1
    rw [h1, if_neg (by omega)]
    have := hES.2.2.1
    unfold toI at this
    omega
  · exact (hge0 t (by omega)).1
  · obtain ⟨c, f, hσ2, -, -, -, hr⟩ := hq
    have hσ2 : σ2 = dk_up (dk_up (dk_up σ 13 f0) 12 c) 13 f := hσ2
    rw [dk_up_comm (show ¬ 13 = 12 by decide), dk_up_up] at hσ2
    have hr : (r = 1 ∧ bf_ls (aC σ) (uC σ) (vC σ) (gC σ) (mC σ) (toI f0) (toI f) ∧ (f 30).toInt ≤ 0 ∧ (c 2).toInt = pl_len (dC σ) (toI f) (nC σ)) ∨ (r = 0 ∧ ¬ ∃ z, bf_sol (aC σ) (uC σ) (vC σ) (gC σ) (mC σ) z ∧ (∀ j, toI f0 j ≤ z j) ∧ z 30 ≤ 0) := hr
    have hup : ∀ z, bf_sol (aC σ) (uC σ) (vC σ) (gC σ) (mC σ) z → (∀ j, j < 31 → db (toI (σ 10)) k w.toInt j ≤ z j) → ∀ j, j < 31 → toI f0 j ≤ z j := by
      intro z hz1 hz2 j hj
      have hz0 : ∀ j, j < 31 → 0 ≤ z j := fun j hj => by
        have := hz2 j hj
        unfold db at this
        have h2 := hE k (by omega)
        split at this <;> omega
      rw [hv0 j hj]
      split
      · next e =>
        subst e
        have := hz2 j hj
        unfold db at this
        rw [if_pos rfl] at this
        exact this
      · exact hES.2.2.2 z hz1 hz0 j hj
    rcases hr with ⟨hr1, hls, h30, hlen⟩ | ⟨hr0, hno⟩
    · refine ⟨Or.inr hr1, c, f, hσ2, Or.inl ⟨hr1, ?_, hlen⟩⟩
      rw [ek]
      refine ⟨hls.1, fun j hj => ?_, ?_, fun z hz1 hz2 j hj => ?_⟩
      · have h1 := hls.2.1 j
        have h2 := hv0 j hj
        have h3 := (hge0 j hj).1
        unfold db
        try dsimp only
        split
        · next e => subst e; rw [if_pos rfl] at h2; omega
        · omega
      · have h1 := hls.2.1 30
        have h2 := hv0 30 (by omega)
        rw [if_neg (by omega), hES.2.2.1] at h2
        unfold toI at h1 h2 ⊢
        omega
      · have := hls.2.2 (fun j => if j < 31 then z j else toI f j) (fun q hq ha => by
          try dsimp only
          rw [if_pos (hN.u hq).2.2, if_pos (hN.v hq).2.2]
          exact hz1 q hq ha) (fun j => by
          try dsimp only
          split
          · next q => exact hup z hz1 hz2 j q
          · exact hls.2.1 j) j
        try dsimp only at this
        rw [if_pos hj] at this
        exact this
    · refine ⟨Or.inl hr0, c, f, hσ2, Or.inr ⟨hr0, ?_⟩⟩
      rw [ek]
      rintro ⟨z, hz1, hz2, hz3⟩
      refine hno ⟨fun j => if j < 31 then z j else toI f0 j, fun q hq ha => ?_, fun j => ?_, ?_⟩
      · try dsimp only
        rw [if_pos (hN.u hq).2.2, if_pos (hN.v hq).2.2]
        exact hz1 q hq ha
      · try dsimp only
        split
        · next q => exact hup z hz1 hz2 j q
        · exact Int.le_refl _
      · try dsimp only
        rw [if_pos (by omega)]
        omega
