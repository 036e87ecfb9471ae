/-! the reference's isTight, findChain -/
def tS (σ : dk_S) (a b : Nat) : Prop := ∃ c, c < mC σ ∧ aC σ c = true ∧ uC σ c = a ∧ vC σ c = b ∧ toI (σ 37) b = toI (σ 37) a + gC σ c
def sB (σ : dk_S) : Prop := ∀ t, t < nC σ → 0 ≤ (σ 37 t).toInt ∧ (σ 37 t).toInt ≤ 9000000
abbrev sp_mtight : dk_M := dk_sp 3 true (fun x : Int32 × Int32 => [.inr 30, .inl x.1, .inl x.2]) (fun x σ => RN σ ∧ sB σ ∧ ∃ a b, a < nC σ ∧ b < nC σ ∧ x = (nI a, nI b)) (fun x σ r σ' => σ' = σ ∧ yn r (tS σ x.1.toNatClampNeg x.2.toNatClampNeg))
set_option maxRecDepth 100000 in
set_option maxHeartbeats 2000000 in
theorem q_mtight : dk_pure (kX7_isTight, fX7, [], [], nX7, 5, true) sp_mtight := by
  refine dk_sp_pure (fun x x' e => by obtain ⟨a, b⟩ := x; obtain ⟨a', b'⟩ := x'; cases e; rfl) (fun _ => rfl) ?_
  rintro OK x σ ⟨⟨hN, hn, hm, hdur, hcon, hoo⟩, hB, a, b, ha, hb, rfl⟩ hC
  have hn30 := hN.n30
  have hm120 := hN.m120
  have ea : (nI a).toNatClampNeg = a := nI_clamp (by omega)
  have eb : (nI b).toNatClampNeg = b := nI_clamp (by omega)
  have hia : vp_in (nI a) 30 := vp_in_nI (by omega) (by omega)
  have hib : vp_in (nI b) 30 := vp_in_nI (by omega) (by omega)
  obtain ⟨Q, hQ⟩ : ∃ Q : Nat → Prop, Q = fun c => aC σ c = true ∧ uC σ c = a ∧ vC σ c = b ∧ toI (σ 37) b = toI (σ 37) a + gC σ c := ⟨_, rfl⟩
  have loop : ∀ (d c : Nat) (is : Int32), c + d = mC σ → yn is (∃ q, q < c ∧ Q q) → OK 5 [(0, .inr 30), (1, .inl (nI a)), (2, .inl (nI b)), (3, .inl is), (4, .inl (nI c))] [] σ := by
    intro d
    induction d with
    | zero =>
      intro c is hc hI
      have hc : c = mC σ := by omega
      subst hc
      refine hC.go (fun q => if q = 5 then some 5 else none) 60 ?_
      refine ⟨fun _ => ⟨?_, rfl, ?_⟩, fun h => ?_⟩
      · rcases hI with ⟨q, -⟩ | ⟨q, -⟩
        · exact Or.inr q
        · exact Or.inl q
      · show yn is (tS σ (nI a).toNatClampNeg (nI b).toNatClampNeg)
        rw [ea, eb]
        rw [hQ] at hI
        exact hI
      · exfalso
        apply h
        show σ 30 1 ≤ nI (mC σ)
        rw [hm]
        exact Int32.le_refl _
    | succ d ih =>
      intro c is hc hI
      have hcm : c < mC σ := by omega
      have ec : (nI c).toNatClampNeg = c := nI_clamp (by omega)
      have hic : vp_in (nI c) 120 := vp_in_nI (by omega) (by omega)
      obtain ⟨k1, k2, k3, k4⟩ := hcon c hcm
      have hu := (hN.u hcm).2.2
      have hv := (hN.v hcm).2.2
      have hg := hN.g hcm
      have ogi : ∀ k t, k < 31 → t < 30 → (og k = nI t ↔ k = t) := fun k t hk ht => by
        unfold og
        by_cases c : k = 30
        · rw [if_pos c]
          exact ⟨fun q => absurd q.symm (nI_m1 (by omega)), fun q => by omega⟩
        · rw [if_neg c, nI_eq (by omega) (by omega)]
      have at78 : ∀ z : Int32, yn z ((∃ q, q < c ∧ Q q) ∨ Q c) → OK 78 [(0, .inr 30), (1, .inl (nI a)), (2, .inl (nI b)), (3, .inl is), (4, .inl (nI c))] [.inl z] σ := by
        intro z hz
        refine hC.go (fun q => if q = 5 then some 5 else none) 60 ?_
        refine ⟨by decide, by decide, ?_⟩
        have e : (∃ q, q < c + 1 ∧ Q q) ↔ ((∃ q, q < c ∧ Q q) ∨ Q c) := by
          constructor
          · rintro ⟨q, h1, h2⟩
            by_cases e : q = c
            · subst e; exact Or.inr h2
            · exact Or.inl ⟨q, by omega, h2⟩
          · rintro (⟨q, h1, h2⟩ | h)
            · exact ⟨q, by omega, h2⟩
            · exact ⟨c, by omega, h⟩
        have key := ih (c + 1) z (by omega) (by unfold yn at hz ⊢; rw [e]; exact hz)
        rw [← nI_1 c] at key
        exact key
      have hadd : (σ 37 (nI a).toNatClampNeg + σ 34 (nI c).toNatClampNeg).toInt = toI (σ 37) a + gC σ c := by
        have := hB a ha
        rw [ea, ec, k3]
        exact dk_add (by unfold gC at hg; omega) (by unfold gC at hg; omega)
      refine hC.go (fun q => if q = 78 then some 5 else none) 60 ?_
      refine ⟨fun h => ?_, fun _ => ⟨fun h => at78 1 (Or.inl ⟨rfl, Or.inl ?_⟩), fun h => ?_⟩⟩
      · exfalso
        have h : σ 30 1 ≤ nI c := h
        rw [hm] at h
        exact nI_ge hcm (by omega) h
      · have h : ¬ is = 0 := h
        rcases hI with ⟨-, q⟩ | ⟨q, -⟩
        · exact q
        · exact absurd q h
      · have h : ¬ ¬ is = 0 := h
        have hno : ¬ ∃ q, q < c ∧ Q q := by
          rcases hI with ⟨q, -⟩ | ⟨-, q⟩
          · exact absurd (by rw [q]; exact i32_ne10) h
          · exact q
        have no : ¬ Q c → yn 0 ((∃ q, q < c ∧ Q q) ∨ Q c) := fun q => Or.inr ⟨rfl, fun r => r.elim hno q⟩
        refine ⟨120, rfl, hic, fun h2 => at78 0 (no (fun q => ?_)), fun h2 => ⟨120, rfl, hic, fun h3 => at78 0 (no (fun q => ?_)), fun h3 => ⟨120, rfl, hic, fun h4 => at78 0 (no (fun q => ?_)), fun h4 => ⟨30, rfl, hib, 30, rfl, hia, 120, rfl, hic, fun h5 => at78 0 (no (fun q => ?_)), fun h5 => at78 1 (Or.inl ⟨rfl, Or.inr ?_⟩)⟩⟩⟩⟩
        · have h2 : ¬ σ 35 (nI c).toNatClampNeg = 0 := h2
          rw [hQ] at q
          rw [ec, k4] at h2
          exact h2 (of_decide_eq_true q.1)
        · have h3 : ¬ σ 32 (nI c).toNatClampNeg = nI a := h3
          rw [hQ] at q
          rw [ec, k1, ogi _ _ hu (by omega)] at h3
          exact h3 q.2.1
        · have h4 : ¬ σ 33 (nI c).toNatClampNeg = nI b := h4
          rw [hQ] at q
          rw [ec, k2, ogi _ _ hv (by omega)] at h4
          exact h4 q.2.2.1
        · have h5 : ¬ σ 37 (nI b).toNatClampNeg = σ 37 (nI a).toNatClampNeg + σ 34 (nI c).toNatClampNeg := h5
          rw [hQ] at q
          rw [dk_eq, hadd, eb] at h5
          exact h5 q.2.2.2
        · have h2 : ¬ ¬ σ 35 (nI c).toNatClampNeg = 0 := h2
          have h3 : ¬ ¬ σ 32 (nI c).toNatClampNeg = nI a := h3
          have h4 : ¬ ¬ σ 33 (nI c).toNatClampNeg = nI b := h4
          have h5 : ¬ ¬ σ 37 (nI b).toNatClampNeg = σ 37 (nI a).toNatClampNeg + σ 34 (nI c).toNatClampNeg := h5
          rw [ec, k4] at h2
          rw [ec, k1, ogi _ _ hu (by omega)] at h3
          rw [ec, k2, ogi _ _ hv (by omega)] at h4
          rw [dk_eq, hadd, eb] at h5
          rw [hQ]
          exact ⟨decide_eq_true (Classical.not_not.mp h2), Classical.not_not.mp h3, Classical.not_not.mp h4, Classical.not_not.mp h5⟩
  refine hC.go (fun q => if q = 5 then some 5 else none) 60 ?_
  exact ⟨by decide, by decide, loop (mC σ) 0 0 (by omega) (Or.inr ⟨rfl, fun ⟨q, h, _⟩ => by omega⟩)⟩
noncomputable def aT (σ : dk_S) : Nat → Bool := fun c => @decide (tS σ (c / nC σ) (c % nC σ)) (Classical.propDecidable _)
def uT (σ : dk_S) : Nat → Nat := fun c => c % nC σ
def vT (σ : dk_S) : Nat → Nat := fun c => c / nC σ
def enS (σ : dk_S) (all : Int32) (t : Nat) : Prop := toI (σ 37) t + dC σ t = all.toInt
def MCH (σ : dk_S) (all : Int32) (k : Nat) (W C : Nat → Int32) : Prop := k ≤ 30 ∧ (∀ i, i < k → ∃ t, t < nC σ ∧ C i = nI t) ∧ DW (nC σ) (tS σ) (enS σ all) 1000 (toI W) ∧ CHN (nC σ) (toI (σ 37)) (tS σ) (toI W) 1000 k (fun i => (C i).toNatClampNeg)
abbrev sp_findChain : dk_M := dk_sp 2 false (fun x : Int32 => [.inr 30, .inl x]) (fun _ σ => RN σ ∧ sB σ) (fun x σ _ σ' => ∃ W C k, σ' = dk_up (dk_up (dk_up σ 42 W) 41 C) 30 (upd (σ 30) 17 (nI k)) ∧ MCH σ x k W C)
set_option maxRecDepth 100000 in
set_option maxHeartbeats 8000000 in
theorem q_findChain : dk_pure (kX7_findChain, fX7, [(131, sp_mtight)], [], nX7, 6, false) sp_findChain := by
  refine dk_sp_pure (fun x x' e => by cases e; rfl) (fun _ => rfl) ?_
  rintro OK al σ ⟨hR, hB⟩ hC
  have hR0 := hR
  obtain ⟨hN, hn, hm, hdur, hcon, hoo⟩ := hR
  have hn30 := hN.n30
  obtain ⟨S, hS⟩ : ∃ S : (Nat → Int32) → (Nat → Int32) → Nat → dk_S, S = fun W C k => dk_up (dk_up (dk_up σ 42 W) 41 C) 30 (upd (σ 30) 17 (nI k)) := ⟨_, rfl⟩
  have hRS : ∀ W C k, RN (S W C k) := fun W C k => by rw [hS]; exact hR0
  have hBS : ∀ W C k, sB (S W C k) := fun W C k => by rw [hS]; exact hB
  have enS' : ∀ W C k, nC (S W C k) = nC σ := fun W C k => by rw [hS]; rfl
  have etS : ∀ W C k, tS (S W C k) = tS σ := fun W C k => by rw [hS]; rfl
  have e300 : ∀ W C k, S W C k 30 0 = nI (nC σ) := fun W C k => by rw [hS]; exact hn
  have e31 : ∀ W C k, S W C k 31 = σ 31 := fun W C k => by rw [hS]; rfl
  have e37 : ∀ W C k, S W C k 37 = σ 37 := fun W C k => by rw [hS]; rfl
  have e42 : ∀ W C k, S W C k 42 = W := fun W C k => by rw [hS]; rfl
  have e41 : ∀ W C k, S W C k 41 = C := fun W C k => by rw [hS]; rfl
  have e17 : ∀ W C k, S W C k 30 17 = nI k := fun W C k => by rw [hS]; rfl
  have u42 : ∀ W C k W', dk_up (S W C k) 42 W' = S W' C k := fun W C k W' => by
    rw [hS]
    show dk_up (dk_up (dk_up (dk_up σ 42 W) 41 C) 30 _) 42 W' = _
    rw [dk_up_comm (show ¬ 30 = 42 by decide), dk_up_comm (show ¬ 41 = 42 by decide), dk_up_up]
  have u41 : ∀ W C k C', dk_up (S W C k) 41 C' = S W C' k := fun W C k C' => by
    rw [hS]
    show dk_up (dk_up (dk_up (dk_up σ 42 W) 41 C) 30 _) 41 C' = _
    rw [dk_up_comm (show ¬ 30 = 41 by decide), dk_up_up]
  have u30 : ∀ W C k k', dk_up (S W C k) 30 (upd (S W C k 30) 17 (nI k')) = S W C k' := fun W C k k' => by
    have : S W C k 30 = upd (σ 30) 17 (nI k) := by rw [hS]; rfl
    rw [this]
    have e2 : upd (upd (σ 30) 17 (nI k)) 17 (nI k') = upd (σ 30) 17 (nI k') := by funext j; unfold upd; split <;> rfl
    rw [e2, hS]
    show dk_up (dk_up (dk_up (dk_up σ 42 W) 41 C) 30 _) 30 _ = _
    rw [dk_up_up]
  have tight : ∀ {W C k a b} (K : List dk_V → dk_S → Prop) (st : List dk_V), st.length ≤ 8 → a < nC σ → b < nC σ → (∀ r, yn r (tS σ a b) → K (.inl r :: st) (S W C k)) → dk_call sp_mtight (.inl (nI b) :: .inl (nI a) :: .inr 30 :: st) (S W C k) K := by
    intro W C k a b K st hst ha hb hK
    refine ⟨?_, ?_, ⟨(nI a, nI b), rfl, hRS W C k, hBS W C k, a, b, by rw [enS']; exact ha, by rw [enS']; exact hb, rfl⟩, fun r σ' h => ?_⟩
    · show 3 ≤ st.length + 1 + 1 + 1; omega
    · show st.length + 1 + 1 + 1 ≤ 3 + 8; omega
    · obtain ⟨h1, h2⟩ := h (nI a, nI b) rfl
      have h2 : yn r (tS (S W C k) (nI a).toNatClampNeg (nI b).toNatClampNeg) := h2
      rw [etS, nI_clamp (by omega), nI_clamp (by omega)] at h2
      rw [h1]
      exact hK r h2
  -- the last part: the chain out of the counts
  have chain : ∀ (W C : Nat → Int32) (L : Nat), DW (nC σ) (tS σ) (enS σ al) 1000 (toI W) → 0 < L → L < 1000 → (∀ t, t < nC σ → toI (σ 37) t = 0 → (L : Int) ≤ toI W t) → (∃ t, t < nC σ ∧ toI (σ 37) t = 0 ∧ toI W t = L) → OK 200 [(0, .inr 30), (1, .inl al), (2, .inl (nI L))] [] (S W C 0) := by
    intro W C L hDW hL0 hL hmin hex
    have hLn : L ≤ nC σ := by
      obtain ⟨t, ht, -, hW⟩ := hex
      have := hDW.small (by decide) ht (by omega)
      omega
    have steps : ∀ (d i : Nat) (C : Nat → Int32) (at_ : Int32), i + d = L → (∀ j, j < i → ∃ t, t < nC σ ∧ C j = nI t) → (i = 0 → at_ = -1) → (∀ j, i = j + 1 → at_ = C j ∧ toI W (C j).toNatClampNeg = (L : Int) - j) → (0 < i → isL (fun t => t < nC σ ∧ toI (σ 37) t = 0 ∧ toI W t = L) (C 0).toNatClampNeg) → (∀ j, j + 1 < i → isL (fun t => t < nC σ ∧ tS σ (C j).toNatClampNeg t ∧ toI W t = (L : Int) - 1 - j) (C (j + 1)).toNatClampNeg) → OK 205 [(0, .inr 30), (1, .inl al), (2, .inl (nI L)), (3, .inl at_), (4, .inl (nI (L - i)))] [] (S W C i) := by
      intro d
      induction d with
      | zero =>
        intro i C at_ hi hCt _ _ h0 hs
        have hi : i = L := by omega
        subst hi
        refine hC.go (fun _ => none) 60 ?_
        rw [show i - i = 0 by omega]
        refine ⟨fun _ => ⟨W, C, i, by rw [hS], by omega, hCt, hDW, Or.inr ⟨hL0, by omega, hmin, h0 hL0, hs⟩⟩, fun h => absurd (show nI 0 ≤ 0 by decide) h⟩
      | succ d ih =>
        intro i C at_ hi hCt hat0 hat h0 hs
        have hiL : i < L := by omega
        have ei : (nI i).toNatClampNeg = i := nI_clamp (by omega)
        -- who is next
        obtain ⟨P, hP⟩ : ∃ P : Nat → Prop, P = fun t => t < nC σ ∧ (if i = 0 then toI (σ 37) t = 0 else tS σ at_.toNatClampNeg t) ∧ toI W t = (L : Int) - i := ⟨_, rfl⟩
        have hatn : ¬ i = 0 → ∃ a, a < nC σ ∧ at_ = nI a := fun c => by
          obtain ⟨j, rfl⟩ : ∃ j, i = j + 1 := ⟨i - 1, by omega⟩
          obtain ⟨t, ht, e⟩ := hCt j (by omega)
          exact ⟨t, ht, by rw [(hat j rfl).1, e]⟩
        have hexP : ∃ t, P t := by
          rw [hP]
          by_cases c : i = 0
          · subst c
            obtain ⟨t, q1, q2, q3⟩ := hex
            exact ⟨t, q1, by rw [if_pos rfl]; exact q2, by rw [q3]; omega⟩
          · obtain ⟨j, rfl⟩ : ∃ j, i = j + 1 := ⟨i - 1, by omega⟩
            obtain ⟨a1, a2⟩ := hat j rfl
            obtain ⟨t, ht, e⟩ := hCt j (by omega)
            have et : (C j).toNatClampNeg = t := by rw [e, nI_clamp (by omega)]
            rw [et] at a2
            obtain ⟨b, hb, q1, q2⟩ := hDW.succ ht (by omega) (by omega)
            refine ⟨b, hb, ?_, by omega⟩
            rw [if_neg c, a1, et]
            exact q1
        obtain ⟨t1, ht1⟩ := hexP
        obtain ⟨t0, -, hL0'⟩ := isL_ex ht1
        have ht0n : t0 < nC σ := by have := hL0'.1; rw [hP] at this; exact this.1
        have ht0W : toI W t0 = (L : Int) - i := by have := hL0'.1; rw [hP] at this; exact this.2.2
        have found : OK 259 [(0, .inr 30), (1, .inl al), (2, .inl (nI L)), (3, .inl at_), (4, .inl (nI (L - i))), (5, .inl (nI t0))] [] (S W C i) := by
          have et0 : (nI t0).toNatClampNeg = t0 := nI_clamp (by omega)
          refine hC.go (fun q => if q = 205 then some 5 else none) 60 ?_
          refine ⟨30, rfl, ?_, ?_⟩
          · show vp_in (S W C i 30 17) 30
            rw [e17]
            exact vp_in_nI (by omega) (by omega)
          refine ⟨by decide, by decide, ?_⟩
          have est : dk_up (dk_up (S W C i) 41 (upd (S W C i 41) (S W C i 30 17).toNatClampNeg (nI t0))) 30 (upd (dk_up (S W C i) 41 (upd (S W C i 41) (S W C i 30 17).toNatClampNeg (nI t0)) 30) 17 (dk_up (S W C i) 41 (upd (S W C i 41) (S W C i 30 17).toNatClampNeg (nI t0)) 30 17 + 1)) = S W (upd C i (nI t0)) (i + 1) := by
            rw [e17, e41, ei, u41, e17, nI_1, u30]
          have epc : nI (L - i) + Int32.ofInt (-1) = nI (L - (i + 1)) := by
            have h1 : nI (L - i) + Int32.ofInt (-1) = nI (L - i) - 1 := by
              rw [dk_eq, Int32.toInt_add, Int32.toInt_sub]
              rfl
            rw [h1, show L - i = (L - (i + 1)) + 1 by omega, nI_pred]
          have c0 : ∀ j, j < i → upd C i (nI t0) j = C j := fun j hj => by unfold upd; rw [if_neg (by omega)]
          have ci : upd C i (nI t0) i = nI t0 := by unfold upd; rw [if_pos rfl]
          have hg := hL0'.1
          have key := ih (i + 1) (upd C i (nI t0)) (nI t0) (by omega) (fun j hj => ?_) (fun c => by omega) (fun j hj => ?_) (fun _ => ?_) (fun j hj => ?_)
          · rw [← est, ← epc] at key
            exact key
          · by_cases c : j = i
            · rw [c, ci]; exact ⟨t0, ht0n, rfl⟩
            · rw [c0 j (by omega)]; exact hCt j (by omega)
          · have : j = i := by omega
            subst this
            rw [ci, et0]
            exact ⟨rfl, ht0W⟩
          · by_cases c : i = 0
            · subst c
              rw [ci, et0]
              have : (fun t => t < nC σ ∧ toI (σ 37) t = 0 ∧ toI W t = (L : Int)) = P := by
                funext t
                apply propext
                rw [hP]
                constructor
                · rintro ⟨q1, q2, q3⟩; exact ⟨q1, by rw [if_pos rfl]; exact q2, by omega⟩
                · rintro ⟨q1, q2, q3⟩; rw [if_pos rfl] at q2; exact ⟨q1, q2, by omega⟩
              rw [this]; exact hL0'
            · rw [c0 0 (by omega)]; exact h0 (by omega)
          · by_cases c : j + 1 = i
            · have hj' : ¬ i = 0 := by omega
              rw [c, ci, et0, c0 j (by omega)]
              obtain ⟨a1, -⟩ := hat j c.symm
              have : (fun t => t < nC σ ∧ tS σ (C j).toNatClampNeg t ∧ toI W t = (L : Int) - 1 - j) = P := by
                funext t
                apply propext
                rw [hP]
                constructor
                · rintro ⟨q1, q2, q3⟩; exact ⟨q1, by rw [if_neg hj', a1]; exact q2, by omega⟩
                · rintro ⟨q1, q2, q3⟩; rw [if_neg hj', a1] at q2; exact ⟨q1, q2, by omega⟩
              rw [this]; exact hL0'
            · rw [c0 j (by omega), c0 (j + 1) (by omega)]; exact hs j (by omega)
        have look : ∀ (g t : Nat), t + g = t0 → OK 213 [(0, .inr 30), (1, .inl al), (2, .inl (nI L)), (3, .inl at_), (4, .inl (nI (L - i))), (5, .inl (nI t))] [] (S W C i) := by
          intro g
          induction g with
          | zero =>
            intro t ht
            have ht : t = t0 := by omega
            subst ht
            have et : (nI t).toNatClampNeg = t := nI_clamp (by omega)
            have hit : vp_in (nI t) 30 := vp_in_nI (by omega) (by omega)
            have hp := hL0'.1
            rw [hP] at hp
            refine hC.go (fun q => if q = 259 then some 6 else none) 60 ?_
            refine ⟨30, rfl, hit, fun h => ?_, fun _ => ⟨fun h => ?_, fun h => ⟨30, rfl, hit, fun _ => found, fun h2 => ?_⟩⟩⟩
            · exfalso
              have h : ¬ S W C i 42 (nI t).toNatClampNeg = nI (L - i) := h
              rw [e42, et] at h
              apply h
              rw [dk_eq, nI_toInt (by omega)]
              have := hp.2.2
              unfold toI at this
              omega
            · have h : ¬ at_ = -1 := h
              have hi0 : ¬ i = 0 := fun c => h (hat0 c)
              obtain ⟨a, ha, hae⟩ := hatn hi0
              rw [hae]
              refine tight _ [] (by decide) ha ht0n (fun r hr => ?_)
              rw [if_neg hi0, hae, nI_clamp (by omega)] at hp
              rcases hr with ⟨hr, -⟩ | ⟨-, hr⟩
              · rw [hr]
                rw [hae] at found
                exact ⟨fun _ => found, fun q => absurd i32_ne10 q⟩
              · exact absurd hp.2.1 hr
            · exfalso
              have h : ¬ ¬ at_ = -1 := h
              have hi0 : i = 0 := by
                apply Classical.byContradiction
                intro c
                obtain ⟨a, ha, hae⟩ := hatn c
                exact h (by rw [hae]; exact nI_m1 (by omega))
              have h2 : ¬ S W C i 37 (nI t).toNatClampNeg = 0 := h2
              rw [e37, et, dk_eq] at h2
              rw [if_pos hi0] at hp
              exact h2 hp.2.1
          | succ g ihg =>
            intro t ht
            have htn : t < nC σ := by omega
            have et : (nI t).toNatClampNeg = t := nI_clamp (by omega)
            have hit : vp_in (nI t) 30 := vp_in_nI (by omega) (by omega)
            have hp := hL0'.2 t (by omega)
            rw [hP] at hp
            try dsimp only at hp
            have next : OK 213 [(0, .inr 30), (1, .inl al), (2, .inl (nI L)), (3, .inl at_), (4, .inl (nI (L - i))), (5, .inl (nI t + 1))] [] (S W C i) := by
              rw [nI_1]; exact ihg (t + 1) (by omega)
            refine hC.go (fun q => if q = 259 ∨ q = 213 then some 6 else none) 60 ?_
            refine ⟨30, rfl, hit, fun h => ⟨by decide, next⟩, fun h1 => ⟨fun h => ?_, fun h => ⟨30, rfl, hit, fun h2 => ?_, fun h2 => ⟨by decide, next⟩⟩⟩⟩
            all_goals
              have h1 : ¬ ¬ S W C i 42 (nI t).toNatClampNeg = nI (L - i) := h1
              have h1 := Classical.not_not.mp h1
              rw [e42, et, dk_eq, nI_toInt (by omega)] at h1
              have hW : toI W t = (L : Int) - i := by unfold toI; omega
            · have h : ¬ at_ = -1 := h
              have hi0 : ¬ i = 0 := fun c => h (hat0 c)
              obtain ⟨a, ha, hae⟩ := hatn hi0
              rw [hae]
              refine tight _ [] (by decide) ha htn (fun r hr => ?_)
              rw [if_neg hi0, hae, nI_clamp (by omega)] at hp
              rcases hr with ⟨-, hr⟩ | ⟨hr, -⟩
              · exact absurd ⟨htn, hr, hW⟩ hp
              · rw [hr]
                rw [hae] at next
                exact ⟨fun q => absurd rfl q, fun _ => ⟨by decide, next⟩⟩
            · exfalso
              have h : ¬ ¬ at_ = -1 := h
              have hi0 : i = 0 := by
                apply Classical.byContradiction
                intro c
                obtain ⟨a, ha, hae⟩ := hatn c
                exact h (by rw [hae]; exact nI_m1 (by omega))
              have h2 : S W C i 37 (nI t).toNatClampNeg = 0 := h2
              rw [e37, et, dk_eq] at h2
              rw [if_pos hi0] at hp
              exact hp ⟨htn, h2, hW⟩
        refine hC.go (fun q => if q = 213 then some 6 else none) 60 ?_
        refine ⟨fun h => ?_, fun _ => ⟨by decide, look t0 0 (by omega)⟩⟩
        exfalso
        have h : nI (L - i) ≤ nI 0 := h
        rw [nI_leI (by omega) (by omega)] at h
        omega
    refine hC.go (fun q => if q = 205 then some 5 else none) 60 ?_
    refine ⟨by decide, by decide, ?_⟩
    exact steps L 0 C (-1) (by omega) (fun j hj => by omega) (fun _ => rfl) (fun j hj => by omega) (fun c => by omega) (fun j hj => by omega)
  -- the least count
  have least : ∀ (d t L : Nat) (W C : Nat → Int32), t + d = nC σ → DW (nC σ) (tS σ) (enS σ al) 1000 (toI W) → 0 < L → L ≤ 1000 → (∀ s, s < t → toI (σ 37) s = 0 → (L : Int) ≤ toI W s) → (L = 1000 ∨ ∃ s, s < nC σ ∧ toI (σ 37) s = 0 ∧ toI W s = L) → OK 148 [(0, .inr 30), (1, .inl al), (2, .inl (nI L)), (3, .inl (nI t))] [] (S W C 0) := by
    intro d
    induction d with
    | zero =>
      intro t L W C ht hDW hL0 hL h1 h2
      have ht : t = nC σ := by omega
      subst ht
      refine hC.go (fun q => if q = 200 then some 3 else none) 60 ?_
      refine ⟨fun _ => ⟨fun h => ?_, fun h => ?_⟩, fun h => ?_⟩
      · have h : ¬ nI L = nI 1000 := h
        rw [nI_eq (by omega) (by omega)] at h
        exact chain W C L hDW hL0 (by omega) h1 (h2.resolve_left h)
      · have h : ¬ ¬ nI L = nI 1000 := h
        rw [nI_eq (by omega) (by omega)] at h
        have h := Classical.not_not.mp h
        subst h
        exact ⟨W, C, 0, by rw [hS], by omega, fun i hi => by omega, hDW, Or.inl ⟨rfl, h1⟩⟩
      · exfalso
        apply h
        show S W C 0 30 0 ≤ nI (nC σ)
        rw [e300]
        exact Int32.le_refl _
    | succ d ih =>
      intro t L W C ht hDW hL0 hL h1 h2
      have htn : t < nC σ := by omega
      have et : (nI t).toNatClampNeg = t := nI_clamp (by omega)
      have hit : vp_in (nI t) 30 := vp_in_nI (by omega) (by omega)
      have hWp := hDW.pos (by decide) htn
      have hWm := (hDW.2.1 t htn).1
      have at185 : ∀ (z : Int32) (L' : Nat), z = nI L' → 0 < L' → L' ≤ 1000 → (∀ s, s < t + 1 → toI (σ 37) s = 0 → (L' : Int) ≤ toI W s) → (L' = 1000 ∨ ∃ s, s < nC σ ∧ toI (σ 37) s = 0 ∧ toI W s = L') → OK 185 [(0, .inr 30), (1, .inl al), (2, .inl (nI L)), (3, .inl (nI t))] [.inl z] (S W C 0) := by
        intro z L' hz q1 q2 q3 q4
        refine hC.go (fun q => if q = 148 then some 4 else none) 60 ?_
        refine ⟨by decide, by decide, ?_⟩
        have key := ih (t + 1) L' W C (by omega) hDW q1 q2 q3 q4
        rw [← nI_1 t, ← hz] at key
        exact key
      have keep : (toI (σ 37) t = 0 → (L : Int) ≤ toI W t) → OK 185 [(0, .inr 30), (1, .inl al), (2, .inl (nI L)), (3, .inl (nI t))] [.inl (nI L)] (S W C 0) := fun q => at185 _ L rfl hL0 hL (fun s hs hz => by
        by_cases c : s = t
        · subst c; exact q hz
        · exact h1 s (by omega) hz) h2
      refine hC.go (fun q => if q = 185 then some 4 else none) 60 ?_
      refine ⟨fun h => ?_, fun _ => ⟨30, rfl, hit, fun h => keep (fun q => ?_), fun h => ⟨30, rfl, hit, fun h3 => keep (fun _ => ?_), fun h3 => ⟨30, rfl, hit, ?_⟩⟩⟩⟩
      · exfalso
        have h : S W C 0 30 0 ≤ nI t := h
        rw [e300, nI_leI (by omega) (by omega)] at h
        omega
      · exfalso
        have h : ¬ S W C 0 37 (nI t).toNatClampNeg = 0 := h
        rw [e37, et, dk_eq] at h
        exact h q
      · have h3 : nI L ≤ S W C 0 42 (nI t).toNatClampNeg := h3
        rw [e42, et, dk_le, nI_toInt (by omega)] at h3
        exact h3
      · have h : ¬ ¬ S W C 0 37 (nI t).toNatClampNeg = 0 := h
        rw [e37, et, dk_eq] at h
        have h := Classical.not_not.mp h
        have h3 : ¬ nI L ≤ S W C 0 42 (nI t).toNatClampNeg := h3
        rw [e42, et, dk_le, nI_toInt (by omega)] at h3
        have hz : W t = nI (toI W t).toNat := by
          rw [dk_eq, nI_toInt (by omega)]
          show toI W t = _
          omega
        have hnat : (((toI W t).toNat : Nat) : Int) = toI W t := by omega
        have key := at185 (W t) (toI W t).toNat hz (by omega) (by omega) (fun s hs hzs => ?_) (Or.inr ⟨t, htn, h, hnat.symm⟩)
        · have e : S W C 0 42 (nI t).toNatClampNeg = W t := by rw [e42, et]
          rw [← e] at key
          exact key
        · rw [hnat]
          by_cases c : s = t
          · rw [c]; exact Int.le_refl _
          · have := h1 s (by omega) hzs
            unfold toI at *
            omega
  -- the counts
  obtain ⟨y0, hy0⟩ : ∃ y0 : (Nat → Int), y0 = ny (nC σ) (fun t => if σ 37 t + σ 31 t = al then 1 else 1000) := ⟨_, rfl⟩
  have hen : ∀ t, t < nC σ → (σ 37 t + σ 31 t = al ↔ enS σ al t) := fun t ht => by
    have h1 := hB t ht
    have h2 := hN.d ht
    unfold enS
    rw [dk_eq, hdur t ht]
    have : (σ 37 t + σ 2 t).toInt = toI (σ 37) t + dC σ t := dk_add (by unfold dC at h2; omega) (by unfold dC at h2; omega)
    rw [this]
  have hy0b : ∀ j, j < 30 → -1000 ≤ y0 j ∧ y0 j ≤ 1000 := fun j _ => by
    rw [hy0]
    unfold ny
    try dsimp only
    split
    · split
      · show -1000 ≤ -((1 : Int32).toInt) ∧ -((1 : Int32).toInt) ≤ 1000; decide
      · show -1000 ≤ -((1000 : Int32).toInt) ∧ -((1000 : Int32).toInt) ≤ 1000; decide
    · omega
  have hy0l : ∀ j, y0 j ≤ 1000 := fun j => by
    rw [hy0]
    unfold ny
    try dsimp only
    split
    · split
      · show -((1 : Int32).toInt) ≤ 1000; decide
      · show -((1000 : Int32).toInt) ≤ 1000; decide
    · omega
  have hub : ∀ c, c < nC σ * nC σ → aT σ c = true → uT σ c < 30 := fun c hc _ => by
    have hpos : 0 < nC σ := by
      rcases Nat.eq_zero_or_pos (nC σ) with q | q
      · rw [q] at hc; omega
      · exact q
    have := Nat.mod_lt c hpos
    unfold uT
    omega
  have hvb : ∀ c, c < nC σ * nC σ → vT σ c < nC σ := fun c hc => Nat.div_lt_of_lt_mul hc
  obtain ⟨it, hit⟩ : ∃ it : Nat → Nat → Int, it = fun k => bf_iter (aT σ) (uT σ) (vT σ) (fun _ => -1) (nC σ * nC σ) k y0 := ⟨_, rfl⟩
  have it0 : it 0 = y0 := by rw [hit]; rfl
  have its : ∀ k, it (k + 1) = bf_pass (aT σ) (uT σ) (vT σ) (fun _ => -1) (nC σ * nC σ) (it k) := fun k => by rw [hit]; rfl
  have hpn : ∀ (x : Nat → Int), (∀ j, ¬ j < nC σ → x j = 0) → ∀ c, c ≤ nC σ * nC σ → ∀ j, ¬ j < nC σ → bf_pass (aT σ) (uT σ) (vT σ) (fun _ => -1) c x j = 0 := by
    intro x hx c
    induction c with
    | zero => intro _ j hj; exact hx j hj
    | succ c ih =>
      intro hc j hj
      have ih := ih (by omega)
      show bf_one (aT σ) (uT σ) (vT σ) (fun _ => -1) (bf_pass (aT σ) (uT σ) (vT σ) (fun _ => -1) c x) c j = 0
      unfold bf_one
      split
      · have hv := hvb c (by omega)
        try dsimp only
        rw [if_neg (by omega)]
        exact ih j hj
      · exact ih j hj
  have itb : ∀ k, ∀ j, j < 30 → -1000 ≤ it k j ∧ it k j ≤ 1000 := by
    intro k
    induction k with
    | zero => rw [it0]; exact hy0b
    | succ k ih => rw [its]; exact bf_pass_b1 hub ih _ (Nat.le_refl _)
  have hsol : bf_sol (aT σ) (uT σ) (vT σ) (fun _ => -1) (nC σ * nC σ) (it 30) := by
    rw [hit]
    refine bf_conv (fun c hc ha => ⟨hub c hc ha, by have := hvb c hc; omega⟩) ⟨fun _ => 1000, fun c hc _ => by show (1000 : Int) + -1 ≤ 1000; omega, hy0l⟩
  have hDWend : ∀ W, ny (nC σ) W = it 30 → DW (nC σ) (tS σ) (enS σ al) 1000 (toI W) := by
    intro W hW
    have eW : ∀ t, t < nC σ → toI W t = -(it 30 t) := fun t ht => by
      rw [← hW]; unfold ny; rw [if_pos ht]; show (W t).toInt = _; omega
    have hcd : ∀ a b, a < nC σ → b < nC σ → nC σ * a + b < nC σ * nC σ ∧ (nC σ * a + b) / nC σ = a ∧ (nC σ * a + b) % nC σ = b := fun a b ha hb => by
      refine ⟨?_, ?_, ?_⟩
      · have : nC σ * (a + 1) ≤ nC σ * nC σ := Nat.mul_le_mul_left _ ha
        rw [Nat.mul_add, Nat.mul_one] at this
        omega
      · rw [Nat.mul_add_div (by omega), Nat.div_eq_of_lt hb]; omega
      · rw [Nat.mul_add_mod, Nat.mod_eq_of_lt hb]
    have hls := bf_iter_ls (k := 30) (x0 := y0) (by rw [hit] at hsol; exact hsol)
    refine ⟨fun a b ha hb hab => ?_, fun t ht => ?_, fun z hz1 hz2 t ht => ?_⟩
    · obtain ⟨q1, q2, q3⟩ := hcd a b ha hb
      have := hsol (nC σ * a + b) q1 ((cp_dec _).mpr (by rw [q2, q3]; exact hab))
      have e1 : uT σ (nC σ * a + b) = b := q3
      have e2 : vT σ (nC σ * a + b) = a := q2
      rw [e1, e2] at this
      have this : it 30 b + -1 ≤ it 30 a := this
      rw [eW a ha, eW b hb]
      omega
    · have := hls.2.1 t
      have h2 : y0 t ≤ it 30 t := by rw [hit]; exact this
      rw [hy0] at h2
      unfold ny at h2
      try dsimp only at h2
      rw [if_pos ht] at h2
      rw [eW t ht]
      split at h2
      · have : (1 : Int32).toInt = 1 := rfl
        exact ⟨by omega, fun _ => by omega⟩
      · next q =>
        have : (1000 : Int32).toInt = 1000 := rfl
        exact ⟨by omega, fun q2 => absurd ((hen t ht).mpr q2) q⟩
    · have h3 := hls.2.2 (fun j => if j < nC σ then -(z j) else y0 j) (fun c hc ha => by
        have ha := (cp_dec _).mp ha
        have hv := hvb c hc
        have hu : uT σ c < nC σ := Nat.mod_lt _ (by omega)
        have := hz1 (vT σ c) (uT σ c) hv hu ha
        try dsimp only
        rw [if_pos hu, if_pos hv]
        omega) (fun j => by
        try dsimp only
        by_cases c : j < nC σ
        · rw [if_pos c, hy0]
          unfold ny
          try dsimp only
          rw [if_pos c]
          have := hz2 j c
          split
          · next q =>
            have h1 := this.2 ((hen j c).mp q)
            have : (1 : Int32).toInt = 1 := rfl
            omega
          · have : (1000 : Int32).toInt = 1000 := rfl
            omega
        · rw [if_neg c]; exact Int.le_refl _) t
      try dsimp only at h3
      rw [if_pos ht] at h3
      rw [eW t ht, hit]
      show z t ≤ -(bf_iter (aT σ) (uT σ) (vT σ) (fun _ => -1) (nC σ * nC σ) 30 y0 t)
      omega
  have rounds : ∀ (d K : Nat) (W C : Nat → Int32), K + d = 30 → ny (nC σ) W = it K → OK 53 [(0, .inr 30), (1, .inl al), (2, .inl (nI K))] [] (S W C 0) := by
    intro d
    induction d with
    | zero =>
      intro K W C hK hW
      have hK : K = 30 := by omega
      subst hK
      refine hC.go (fun q => if q = 148 then some 4 else none) 60 ?_
      refine ⟨fun _ => ⟨by decide, by decide, ?_⟩, fun h => absurd (show nI 30 ≤ nI 30 by decide) h⟩
      exact least (nC σ) 0 1000 W C (by omega) (hDWend W hW) (by omega) (by omega) (fun s hs => by omega) (Or.inl rfl)
    | succ d ihK =>
      intro K W0 C hK hW0
      have rows : ∀ (da a : Nat) (W : Nat → Int32), a + da = nC σ → ny (nC σ) W = bf_pass (aT σ) (uT σ) (vT σ) (fun _ => -1) (nC σ * a) (it K) → OK 61 [(0, .inr 30), (1, .inl al), (2, .inl (nI K)), (3, .inl (nI a))] [] (S W C 0) := by
        intro da
        induction da with
        | zero =>
          intro a W ha hW
          have ha : a = nC σ := by omega
          subst ha
          refine hC.go (fun q => if q = 53 then some 3 else none) 60 ?_
          refine ⟨fun _ => ⟨by decide, ?_⟩, fun h => ?_⟩
          · have key := ihK (K + 1) W C (by omega) (by rw [its]; exact hW)
            rw [← nI_1 K] at key
            exact key
          · exfalso
            apply h
            show S W C 0 30 0 ≤ nI (nC σ)
            rw [e300]
            exact Int32.le_refl _
        | succ da iha =>
          intro a W ha hW
          have han : a < nC σ := by omega
          have ea : (nI a).toNatClampNeg = a := nI_clamp (by omega)
          have hia : vp_in (nI a) 30 := vp_in_nI (by omega) (by omega)
          have cols : ∀ (db b : Nat) (W : Nat → Int32), b + db = nC σ → ny (nC σ) W = bf_pass (aT σ) (uT σ) (vT σ) (fun _ => -1) (nC σ * a + b) (it K) → OK 72 [(0, .inr 30), (1, .inl al), (2, .inl (nI K)), (3, .inl (nI a)), (4, .inl (nI b))] [] (S W C 0) := by
            intro db
            induction db with
            | zero =>
              intro b W hb hW
              have hb : b = nC σ := by omega
              subst hb
              refine hC.go (fun q => if q = 61 then some 4 else none) 60 ?_
              refine ⟨fun _ => ⟨by decide, ?_⟩, fun h => ?_⟩
              · have key := iha (a + 1) W (by omega) (by rw [show nC σ * (a + 1) = nC σ * a + nC σ by rw [Nat.mul_add, Nat.mul_one]]; exact hW)
                rw [← nI_1 a] at key
                exact key
              · exfalso
                apply h
                show S W C 0 30 0 ≤ nI (nC σ)
                rw [e300]
                exact Int32.le_refl _
            | succ db ihb =>
              intro b W hb hW
              have hbn : b < nC σ := by omega
              have eb : (nI b).toNatClampNeg = b := nI_clamp (by omega)
              have hib : vp_in (nI b) 30 := vp_in_nI (by omega) (by omega)
              have q1 : nC σ * a + b < nC σ * nC σ := by
                have : nC σ * (a + 1) ≤ nC σ * nC σ := Nat.mul_le_mul_left _ han
                rw [Nat.mul_add, Nat.mul_one] at this
                omega
              have e2 : vT σ (nC σ * a + b) = a := by
                show (nC σ * a + b) / nC σ = a
                rw [Nat.mul_add_div (by omega), Nat.div_eq_of_lt hbn]; omega
              have e1 : uT σ (nC σ * a + b) = b := by
                show (nC σ * a + b) % nC σ = b
                rw [Nat.mul_add_mod, Nat.mod_eq_of_lt hbn]
              have hbd := bf_pass_b1 (v := vT σ) hub (itb K) (nC σ * a + b) (by omega)
              rw [← hW] at hbd
              have hWa : ny (nC σ) W a = -(W a).toInt := if_pos han
              have hWb : ny (nC σ) W b = -(W b).toInt := if_pos hbn
              have ha1 := hbd a (by omega)
              have hb1 := hbd b (by omega)
              have hadd : (W b + 1).toInt = (W b).toInt + 1 := dk_add (y := 1) (by show -2147483648 ≤ (W b).toInt + 1; omega) (by show (W b).toInt + 1 < 2147483648; omega)
              have hpass : bf_pass (aT σ) (uT σ) (vT σ) (fun _ => -1) (nC σ * a + (b + 1)) (it K) = bf_one (aT σ) (uT σ) (vT σ) (fun _ => -1) (ny (nC σ) W) (nC σ * a + b) := by
                rw [hW]; rfl
              have skip : ¬ (aT σ (nC σ * a + b) = true ∧ ny (nC σ) W a < ny (nC σ) W b + -1) → OK 72 [(0, .inr 30), (1, .inl al), (2, .inl (nI K)), (3, .inl (nI a)), (4, .inl (nI b + 1))] [] (S W C 0) := by
                intro hno
                rw [nI_1]
                refine ihb (b + 1) W (by omega) ?_
                rw [hpass]
                unfold bf_one
                rw [e1, e2, if_neg hno]
              refine hC.go (fun q => if q = 72 then some 5 else none) 60 ?_
              refine ⟨fun h => ?_, fun _ => ⟨30, rfl, hib, 30, rfl, hia, fun h => ⟨by decide, skip (fun q => ?_)⟩, fun h => ?_⟩⟩
              · exfalso
                have h : S W C 0 30 0 ≤ nI b := h
                rw [e300, nI_leI (by omega) (by omega)] at h
                omega
              · have h : S W C 0 42 (nI a).toNatClampNeg ≤ S W C 0 42 (nI b).toNatClampNeg + 1 := h
                rw [e42, ea, eb, dk_le, hadd] at h
                have := q.2
                omega
              · have h : ¬ S W C 0 42 (nI a).toNatClampNeg ≤ S W C 0 42 (nI b).toNatClampNeg + 1 := h
                rw [e42, ea, eb, dk_le, hadd] at h
                refine tight _ [] (by decide) han hbn (fun r hr => ?_)
                refine ⟨fun h2 => ⟨by decide, skip (fun q => ?_)⟩, fun h2 => ⟨30, rfl, hib, 30, rfl, hia, by decide, ?_⟩⟩
                · have h2 : r = 0 := h2
                  have qa := (cp_dec _).mp q.1
                  rcases hr with ⟨hr, -⟩ | ⟨-, hr⟩
                  · rw [hr] at h2; exact absurd h2 i32_ne10
                  · have e3 : (nC σ * a + b) / nC σ = a := e2
                    have e4 : (nC σ * a + b) % nC σ = b := e1
                    rw [e3, e4] at qa
                    exact hr qa
                · have h2 : ¬ r = 0 := h2
                  have hab : tS σ a b := by
                    rcases hr with ⟨-, hr⟩ | ⟨hr, -⟩
                    · exact hr
                    · exact absurd hr h2
                  have haT : aT σ (nC σ * a + b) = true := (cp_dec _).mpr (by
                    have e3 : (nC σ * a + b) / nC σ = a := e2
                    have e4 : (nC σ * a + b) % nC σ = b := e1
                    rw [e3, e4]; exact hab)
                  have est : dk_up (S W C 0) 42 (upd (S W C 0 42) (nI a).toNatClampNeg (S W C 0 42 (nI b).toNatClampNeg + 1)) = S (upd W a (W b + 1)) C 0 := by rw [e42, ea, eb, u42]
                  have key := ihb (b + 1) (upd W a (W b + 1)) (by omega) ?_
                  · rw [← nI_1 b, ← est] at key
                    exact key
                  · rw [hpass]
                    unfold bf_one
                    rw [e1, e2, if_pos ⟨haT, by show ny (nC σ) W a < ny (nC σ) W b + -1; omega⟩]
                    funext j
                    show ny (nC σ) (upd W a (W b + 1)) j = if j = a then ny (nC σ) W b + -1 else ny (nC σ) W j
                    by_cases c : j = a
                    · rw [if_pos c]
                      have : ny (nC σ) (upd W a (W b + 1)) j = -((W b + 1).toInt) := by
                        unfold ny upd
                        rw [if_pos (by omega), if_pos c]
                      rw [this, hadd]
                      omega
                    · rw [if_neg c]
                      unfold ny upd
                      rw [if_neg c]
          refine hC.go (fun q => if q = 72 then some 5 else none) 60 ?_
          refine ⟨fun h => ?_, fun _ => ⟨by decide, cols (nC σ) 0 W (by omega) (by rw [Nat.add_zero]; exact hW)⟩⟩
          exfalso
          have h : S W C 0 30 0 ≤ nI a := h
          rw [e300, nI_leI (by omega) (by omega)] at h
          omega
      refine hC.go (fun q => if q = 61 then some 4 else none) 60 ?_
      refine ⟨fun h => ?_, fun _ => ⟨by decide, rows (nC σ) 0 W0 (by omega) (by rw [Nat.mul_zero, hW0]; rfl)⟩⟩
      exfalso
      have h : nI 30 ≤ nI K := h
      rw [nI_leI (by omega) (by omega)] at h
      omega
  have first : ∀ (d t : Nat) (W C : Nat → Int32), t + d = nC σ → (∀ j, j < t → W j = if σ 37 j + σ 31 j = al then 1 else 1000) → OK 7 [(0, .inr 30), (1, .inl al), (2, .inl (nI t))] [] (S W C 0) := by
    intro d
    induction d with
    | zero =>
      intro t W C ht hW
      have ht : t = nC σ := by omega
      subst ht
      refine hC.go (fun q => if q = 53 then some 3 else none) 60 ?_
      refine ⟨fun _ => ⟨by decide, ?_⟩, fun h => ?_⟩
      · refine rounds 30 0 W C (by omega) ?_
        rw [it0, hy0]
        funext j
        unfold ny
        by_cases c : j < nC σ
        · rw [if_pos c, if_pos c, hW j c]
        · rw [if_neg c, if_neg c]
      · exfalso
        apply h
        show S W C 0 30 0 ≤ nI (nC σ)
        rw [e300]
        exact Int32.le_refl _
    | succ d ih =>
      intro t W C ht hW
      have et : (nI t).toNatClampNeg = t := nI_clamp (by omega)
      have hit : vp_in (nI t) 30 := vp_in_nI (by omega) (by omega)
      have at44 : ∀ z : Int32, z = (if σ 37 t + σ 31 t = al then 1 else 1000) → OK 44 [(0, .inr 30), (1, .inl al), (2, .inl (nI t))] [.inl z, .inl (nI t), .inr 42] (S W C 0) := by
        intro z hz
        refine hC.go (fun q => if q = 7 then some 3 else none) 60 ?_
        refine ⟨30, rfl, hit, by decide, ?_⟩
        have est : dk_up (S W C 0) 42 (upd (S W C 0 42) (nI t).toNatClampNeg z) = S (upd W t z) C 0 := by rw [e42, et, u42]
        have key := ih (t + 1) (upd W t z) C (by omega) (fun j hj => by
          unfold upd
          by_cases c : j = t
          · rw [if_pos c, c, hz]
          · rw [if_neg c]; exact hW j (by omega))
        rw [← nI_1 t, ← est] at key
        exact key
      refine hC.go (fun q => if q = 44 then some 3 else none) 60 ?_
      refine ⟨fun h => ?_, fun _ => ⟨30, rfl, hit, 30, rfl, hit, fun h => at44 _ ?_, fun h => at44 _ ?_⟩⟩
      · exfalso
        have h : S W C 0 30 0 ≤ nI t := h
        rw [e300, nI_leI (by omega) (by omega)] at h
        omega
      · have h : ¬ S W C 0 37 (nI t).toNatClampNeg + S W C 0 31 (nI t).toNatClampNeg = al := h
        rw [e37, e31, et] at h
        rw [if_neg h]
        rfl
      · have h : ¬ ¬ S W C 0 37 (nI t).toNatClampNeg + S W C 0 31 (nI t).toNatClampNeg = al := h
        rw [e37, e31, et] at h
        rw [if_pos (Classical.not_not.mp h)]
        rfl
  refine hC.go (fun q => if q = 7 then some 3 else none) 60 ?_
  refine ⟨by decide, ?_⟩
  have key := first (nC σ) 0 (σ 42) (σ 41) (by omega) (fun j hj => by omega)
  have est : S (σ 42) (σ 41) 0 = dk_up σ 30 (upd (σ 30) 17 0) := by
    rw [hS]
    show dk_up (dk_up (dk_up σ 42 (σ 42)) 41 (σ 41)) 30 (upd (σ 30) 17 (nI 0)) = _
    rw [dk_up_id]
    have : dk_up σ 41 (σ 41) = σ := dk_up_id
    rw [this]
    rfl
  rw [est] at key
  exact key
