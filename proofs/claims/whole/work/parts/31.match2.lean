/-! the class's Match: the search -/
theorem nI_m1 {k : Nat} (h : k < 1000) : ¬ nI k = -1 := fun q => by
  have := congrArg Int32.toInt q
  rw [nI_toInt (by omega)] at this
  have e9 : (-1 : Int32).toInt = -1 := rfl
  omega
/-- the five cells of the match -/
def SM (σ : dk_S) (c a b q f : Nat → Int32) : dk_S := fun k => if k = 25 then c else if k = 26 then a else if k = 27 then b else if k = 28 then q else if k = 29 then f else σ k
section SMS
variable {σ : dk_S} {c a b q f x : Nat → Int32}
theorem SM_25 : dk_up (SM σ c a b q f) 25 x = SM σ x a b q f := by
  funext k; unfold dk_up SM; split <;> rfl
theorem SM_26 : dk_up (SM σ c a b q f) 26 x = SM σ c x b q f := by
  funext k; unfold dk_up SM
  by_cases h : k = 26
  · subst h; rfl
  · rw [if_neg h, if_neg h, if_neg h]
theorem SM_27 : dk_up (SM σ c a b q f) 27 x = SM σ c a x q f := by
  funext k; unfold dk_up SM
  by_cases h : k = 27
  · subst h; rfl
  · rw [if_neg h, if_neg h, if_neg h]
theorem SM_28 : dk_up (SM σ c a b q f) 28 x = SM σ c a b x f := by
  funext k; unfold dk_up SM
  by_cases h : k = 28
  · subst h; rfl
  · rw [if_neg h, if_neg h, if_neg h]
theorem SM_29 : dk_up (SM σ c a b q f) 29 x = SM σ c a b q x := by
  funext k; unfold dk_up SM
  by_cases h : k = 29
  · subst h; rfl
  · rw [if_neg h, if_neg h, if_neg h]
theorem SM_id : SM σ (σ 25) (σ 26) (σ 27) (σ 28) (σ 29) = σ := by
  funext k; unfold SM
  by_cases h : k = 25
  · subst h; rfl
  rw [if_neg h]
  by_cases h : k = 26
  · subst h; rfl
  rw [if_neg h]
  by_cases h : k = 27
  · subst h; rfl
  rw [if_neg h]
  by_cases h : k = 28
  · subst h; rfl
  rw [if_neg h]
  by_cases h : k = 29
  · subst h; rfl
  rw [if_neg h]
theorem SM_SM {c' a' b' q' f' : Nat → Int32} : SM (SM σ c a b q f) c' a' b' q' f' = SM σ c' a' b' q' f' := by
  funext k; unfold SM
  repeat' split
  all_goals rfl
end SMS
abbrev sp_enqueue : dk_M := dk_sp 2 false (fun t : Int32 => [.inr 25, .inl t]) (fun _ σ => ∃ q, q < 30 ∧ σ 25 9 = nI q) (fun t σ _ σ' => ∀ q, q < 30 → σ 25 9 = nI q → σ' = SM σ (upd (σ 25) 9 (nI (q + 1))) (σ 26) (σ 27) (upd (σ 28) q t) (σ 29))
set_option maxRecDepth 100000 in
theorem q_enqueue : dk_pure (kX3_enqueue, fX3, [], [], nX3, 2, false) sp_enqueue := by
  refine dk_sp_pure (fun x x' e => by cases e; rfl) (fun _ => rfl) ?_
  rintro OK t σ ⟨q, hq, hq1⟩ hC
  refine hC.go (fun _ => none) 30 ?_
  refine ⟨fun h => ?_, fun _ => ⟨30, rfl, ?_, fun q' hq' hq1' => ?_⟩⟩
  · exfalso
    have h : nI 30 ≤ σ 25 9 := h
    rw [hq1, nI_leI (by omega) (by omega)] at h
    omega
  · show vp_in (σ 25 9) 30
    rw [hq1]; exact vp_in_nI hq (by omega)
  · rw [hq1, nI_eq (by omega) (by omega)] at hq1'
    subst hq1'
    show dk_up (dk_up σ 28 (upd (σ 28) (σ 25 9).toNatClampNeg t)) 25 (upd (σ 25) 9 (σ 25 9 + 1)) = _
    rw [hq1, nI_clamp (by omega), nI_1]
    conv => lhs; rw [← SM_id (σ := σ)]
    rw [SM_28, SM_25]
    rfl
abbrev sp_pair : dk_M := dk_sp 3 false (fun x : Int32 × Int32 => [.inr 25, .inl x.1, .inl x.2]) (fun x _ => (∃ t, t < 30 ∧ x.1 = nI t) ∧ ∃ w, w < 16 ∧ x.2 = nI w) (fun x σ _ σ' => σ' = SM σ (σ 25) (upd (σ 26) x.1.toNatClampNeg x.2) (upd (σ 27) x.2.toNatClampNeg x.1) (σ 28) (σ 29))
set_option maxRecDepth 100000 in
theorem q_pair : dk_pure (kX3_pair, fX3, [], [], nX3, 3, false) sp_pair := by
  refine dk_sp_pure (fun x x' e => by obtain ⟨a, b⟩ := x; obtain ⟨a', b'⟩ := x'; cases e; rfl) (fun _ => rfl) ?_
  rintro OK ⟨t, w⟩ σ ⟨⟨t0, ht, ht1⟩, ⟨w0, hw, hw1⟩⟩ hC
  have ht1 : t = nI t0 := ht1
  have hw1 : w = nI w0 := hw1
  subst ht1
  subst hw1
  refine hC.go (fun _ => none) 30 ?_
  refine ⟨30, rfl, vp_in_nI ht (by omega), 16, rfl, vp_in_nI hw (by omega), ?_⟩
  show dk_up (dk_up σ 26 (upd (σ 26) (nI t0).toNatClampNeg (nI w0))) 27 (upd (σ 27) (nI w0).toNatClampNeg (nI t0)) = _
  conv => lhs; rw [← SM_id (σ := σ)]
  rw [SM_26, SM_27]
  rfl
/-- tasks' workers and workers' tasks agree -/
def MI (wt tw : Nat → Int32) : Prop := (∀ t, t < 30 → wt t = -1 ∨ ∃ w, w < 16 ∧ wt t = nI w ∧ tw w = nI t) ∧ ∀ w, w < 16 → tw w = -1 ∨ ∃ t, t < 30 ∧ tw w = nI t ∧ wt t = nI w
/-- the search: qt the queued tasks, X the workers found, fp by which place of the queue; d an idle one -/
def BI (ru : Int32) (sk wt tw qu fi : Nat → Int32) (q : Nat) (W : Int32) (X : Nat → Prop) (fp qt : Nat → Nat) (p d : Nat) : Prop :=
  (∀ i, i < q → qu i = nI (qt i) ∧ qt i < 30 ∧ bt ru (qt i) = true) ∧ (∀ i j, i < q → j < q → qt i = qt j → i = j) ∧
  (∀ w, w < 16 → X w → fi w = nI (qt (fp w)) ∧ fp w < q ∧ bt (sk (qt (fp w))) w = true ∧ bt W w = true) ∧
  (∀ i, i < q → wt (qt i) = -1 ∨ ∃ w, w < 16 ∧ wt (qt i) = nI w ∧ X w ∧ fp w < i) ∧
  (∀ w, w < 16 → X w → ¬ w = d → ∃ i, i < q ∧ tw w = nI (qt i)) ∧
  (∀ i, i < p → ∀ w, w < 16 → bt (sk (qt i)) w = true → bt W w = true → X w) ∧
  (∀ t, t < 30 → bt ru t = true → wt t = -1 → ∃ i, i < q ∧ qt i = t)
theorem BI.q30 {ru : Int32} {sk wt tw qu fi : Nat → Int32} {q : Nat} {W : Int32} {X : Nat → Prop} {fp qt : Nat → Nat} {p d : Nat} (h : BI ru sk wt tw qu fi q W X fp qt p d) : q ≤ 30 := by
  have h1 : cp (fun _ => True) q ≤ cp (fun _ => True) 30 := cp_inj (f := qt) (fun i hi _ => ⟨(h.1 i hi).2.1, trivial⟩) (fun i j hi hj _ _ e => h.2.1 i j hi hj e)
  have h2 : ∀ n, cp (fun _ => True) n = n := by
    intro n
    induction n with
    | zero => rfl
    | succ n ih => rw [cp_succ_pos trivial, ih]
  rw [h2, h2] at h1
  exact h1
theorem BI.qlt {ru : Int32} {sk wt tw qu fi : Nat → Int32} {q : Nat} {W : Int32} {X : Nat → Prop} {fp qt : Nat → Nat} {p d : Nat} (h : BI ru sk wt tw qu fi q W X fp qt p d) {t : Nat} (ht : t < 30) (hn : ∀ i, i < q → ¬ qt i = t) : q < 30 := by
  have h1 : cp (fun _ => True) q ≤ cp (fun s => True ∧ ¬ s = t) 30 := cp_inj (f := qt) (fun i hi _ => ⟨(h.1 i hi).2.1, trivial, hn i hi⟩) (fun i j hi hj _ _ e => h.2.1 i j hi hj e)
  have h2 : ∀ n, cp (fun _ => True) n = n := by
    intro n
    induction n with
    | zero => rfl
    | succ n ih => rw [cp_succ_pos trivial, ih]
  have h3 := cp_remove (Q := fun _ => True) (m := 30) ht trivial
  rw [h2] at h1 h3
  omega
/-- what the search of one task's workers stands on -/
def sp1 (σ : dk_S) (t W : Int32) (X : Nat → Prop) (fp qt : Nat → Nat) (q p : Nat) : Prop :=
  σ 25 9 = nI q ∧ p < q ∧ t = nI (qt p) ∧ BI (σ 25 3) (σ 8) (σ 26) (σ 27) (σ 28) (σ 29) q W X fp qt p 16 ∧ (∀ w, w < 16 → (X w ↔ bt (σ 25 10) w = true)) ∧ MI (σ 26) (σ 27) ∧ ∀ t, t < 30 → ¬ σ 26 t = -1 → bt (σ 25 3) t = true
abbrev sp_see : dk_M := dk_sp 3 true (fun x : Int32 × Int32 => [.inr 25, .inl x.1, .inl x.2]) (fun x σ => ∃ X fp qt q p, sp1 σ x.1 x.2 X fp qt q p)
  (fun x σ r σ' => ∀ X fp qt q p, sp1 σ x.1 x.2 X fp qt q p → ∃ X' fp' qt' q' qu' fi' se', σ' = SM σ (upd (upd (σ 25) 10 se') 9 (nI q')) (σ 26) (σ 27) qu' fi' ∧ q ≤ q' ∧ (∀ i, i < 32 → bt se' i = true → bt (σ 25 10) i = true ∨ bt x.2 i = true) ∧
    ((r = -1 ∧ BI (σ 25 3) (σ 8) (σ 26) (σ 27) qu' fi' q' x.2 X' fp' qt' (p + 1) 16 ∧ ∀ w, w < 16 → (X' w ↔ bt se' w = true)) ∨ ∃ d, d < 16 ∧ r = nI d ∧ σ 27 d = -1 ∧ X' d ∧ BI (σ 25 3) (σ 8) (σ 26) (σ 27) qu' fi' q' x.2 X' fp' qt' 0 d))
set_option maxRecDepth 100000 in
set_option maxHeartbeats 4000000 in
theorem q_see : dk_pure (kX3_seeWorkersOf, fX3, [(81, sp_enqueue)], [(55, sp_holdsBit)], nX3, 5, false) sp_see := by
  refine dk_sp_pure (fun x x' e => by obtain ⟨a, b⟩ := x; obtain ⟨a', b'⟩ := x'; cases e; rfl) (fun _ => rfl) ?_
  rintro OK ⟨ti, W⟩ σ ⟨X, fp, qt, q, p, hsp⟩ hC
  have hsp0 := hsp
  obtain ⟨h9, hpq, hti, hBI, hXs, hMI, hrun⟩ := hsp
  have hti : ti = nI (qt p) := hti
  subst hti
  have hBI0 : BI (σ 25 3) (σ 8) (σ 26) (σ 27) (σ 28) (σ 29) q W X fp qt p 16 := hBI
  have hq30 := hBI0.q30
  obtain ⟨t, ht⟩ : ∃ t, t = qt p := ⟨_, rfl⟩
  have ht30 : t < 30 := by rw [ht]; exact (hBI0.1 p hpq).2.1
  have et : (nI t).toNatClampNeg = t := nI_clamp (by omega)
  rw [← ht]
  -- the mask of those not seen
  obtain ⟨un, hun⟩ : ∃ un, un = σ 8 t &&& W &&& (σ 25 10 ^^^ (-1)) := ⟨_, rfl⟩
  have hunb : ∀ w, w < 16 → (bt un w = true ↔ bt (σ 8 t) w = true ∧ bt W w = true ∧ ¬ X w) := by
    intro w hw
    rw [hun, b_and, b_and, b_xor, b_m1 w (by omega), hXs w hw]
    cases bt (σ 8 t) w <;> cases bt W w <;> cases bt (σ 25 10) w <;> simp
  obtain ⟨se, hse⟩ : ∃ se, se = σ 25 10 ||| un := ⟨_, rfl⟩
  have hseb : ∀ w, w < 16 → (bt se w = true ↔ X w ∨ bt un w = true) := by
    intro w hw
    rw [hse, b_or, hXs w hw]
    cases bt (σ 25 10) w <;> cases bt un w <;> simp
  have hup : ∀ i, i < 32 → bt se i = true → bt (σ 25 10) i = true ∨ bt W i = true := by
    intro i hi
    rw [hse, hun, b_or, b_and, b_and]
    cases bt (σ 25 10) i <;> cases bt W i <;> simp
  -- any other start says the same of the store
  have huniq : ∀ X2 fp2 qt2 q2 p2, sp1 σ (nI t) W X2 fp2 qt2 q2 p2 → q2 = q ∧ p2 = p ∧ (∀ i, i < q → qt2 i = qt i) ∧ ∀ w, w < 16 → (X2 w ↔ X w) := by
    intro X2 fp2 qt2 q2 p2 h
    obtain ⟨a1, a2, a3, a4, a5, -⟩ := h
    have e1 : q2 = q := by
      have := a4.q30
      rw [h9, nI_eq (by omega) (by omega)] at a1
      exact a1.symm
    subst e1
    have e2 : ∀ i, i < q2 → qt2 i = qt i := by
      intro i hi
      have b1 := (a4.1 i hi)
      have b2 := (hBI0.1 i hi)
      have := b1.1.symm.trans b2.1
      rwa [nI_eq (by omega) (by omega)] at this
    have e3 : p2 = p := by
      have b1 := a4.1 p2 a2
      rw [nI_eq (by omega) (by omega)] at a3
      have b2 := e2 p2 a2
      exact hBI0.2.1 p2 p a2 hpq (by rw [← b2, ← a3, ht])
    exact ⟨rfl, e3, e2, fun w hw => (a5 w hw).trans (hXs w hw).symm⟩
  have post : ∀ r σ', (∃ X' fp' qt' q' qu' fi' se', σ' = SM σ (upd (upd (σ 25) 10 se') 9 (nI q')) (σ 26) (σ 27) qu' fi' ∧ q ≤ q' ∧ (∀ i, i < 32 → bt se' i = true → bt (σ 25 10) i = true ∨ bt W i = true) ∧
      ((r = -1 ∧ BI (σ 25 3) (σ 8) (σ 26) (σ 27) qu' fi' q' W X' fp' qt' (p + 1) 16 ∧ ∀ w, w < 16 → (X' w ↔ bt se' w = true)) ∨ ∃ d, d < 16 ∧ r = nI d ∧ σ 27 d = -1 ∧ X' d ∧ BI (σ 25 3) (σ 8) (σ 26) (σ 27) qu' fi' q' W X' fp' qt' 0 d)) →
      ∀ X2 fp2 qt2 q2 p2, sp1 σ (nI (qt p)) W X2 fp2 qt2 q2 p2 → ∃ X' fp' qt' q' qu' fi' se', σ' = SM σ (upd (upd (σ 25) 10 se') 9 (nI q')) (σ 26) (σ 27) qu' fi' ∧ q2 ≤ q' ∧ (∀ i, i < 32 → bt se' i = true → bt (σ 25 10) i = true ∨ bt W i = true) ∧
      ((r = -1 ∧ BI (σ 25 3) (σ 8) (σ 26) (σ 27) qu' fi' q' W X' fp' qt' (p2 + 1) 16 ∧ ∀ w, w < 16 → (X' w ↔ bt se' w = true)) ∨ ∃ d, d < 16 ∧ r = nI d ∧ σ 27 d = -1 ∧ X' d ∧ BI (σ 25 3) (σ 8) (σ 26) (σ 27) qu' fi' q' W X' fp' qt' 0 d) := by
    intro r σ' h X2 fp2 qt2 q2 p2 h2
    obtain ⟨e1, e2, -, -⟩ := huniq X2 fp2 qt2 q2 p2 (by rw [ht]; exact h2)
    rw [e1, e2]
    exact h
  have loop : ∀ (d w : Nat) (fp' qt' : Nat → Nat) (q' : Nat) (qu' fi' : Nat → Int32), w + d = 16 → BI (σ 25 3) (σ 8) (σ 26) (σ 27) qu' fi' q' W (fun v => X v ∨ (v < w ∧ bt un v = true)) fp' qt' p 16 → q ≤ q' → qt' p = t → OK 29 [(0, .inr 25), (1, .inl (nI t)), (2, .inl W), (3, .inl un), (4, .inl (nI w))] [] (SM σ (upd (upd (σ 25) 10 se) 9 (nI q')) (σ 26) (σ 27) qu' fi') := by
    intro d
    induction d with
    | zero =>
      intro w fp' qt' q' qu' fi' hw hB hqq hqp
      have hw : w = 16 := by omega
      subst hw
      refine hC.go (fun q => if q = 29 then some 5 else none) 60 ?_
      refine ⟨fun _ => post (-1) _ ⟨fun v => X v ∨ (v < 16 ∧ bt un v = true), fp', qt', q', qu', fi', se, rfl, hqq, hup, Or.inl ⟨rfl, ?_, fun v hv => ?_⟩⟩, fun h => absurd (show nI 16 ≤ nI 16 by decide) h⟩
      · obtain ⟨b1, b2, b3, b4, b5, b6, b7⟩ := hB
        refine ⟨b1, b2, b3, b4, b5, fun i hi v hv ha hW => ?_, b7⟩
        by_cases e : i = p
        · subst e
          rw [hqp] at ha
          by_cases hx : X v
          · exact Or.inl hx
          · exact Or.inr ⟨hv, (hunb v hv).mpr ⟨ha, hW, hx⟩⟩
        · exact b6 i (by omega) v hv ha hW
      · rw [hseb v hv]
        constructor
        · rintro (h | ⟨-, h⟩)
          · exact Or.inl h
          · exact Or.inr h
        · rintro (h | h)
          · exact Or.inl h
          · exact Or.inr ⟨hv, h⟩
    | succ d ih =>
      intro w fp' qt' q' qu' fi' hw hB hqq hqp
      have ew : (nI w).toNatClampNeg = w := nI_clamp (by omega)
      have hiw : vp_in (nI w) 16 := vp_in_nI (by omega) (by omega)
      have hq'30 := hB.q30
      obtain ⟨b1, b2, b3, b4, b5, b6, b7⟩ := hB
      refine hC.go (fun q => if q = 29 then some 5 else none) 60 ?_
      refine ⟨fun h => ?_, fun _ => ?_⟩
      · exfalso
        have h : nI 16 ≤ nI w := h
        rw [nI_leI (by omega) (by omega)] at h
        omega
      refine dk_cs (un, nI w) rfl rfl rfl ⟨w, by omega, rfl⟩ (fun r1 σ1 hq1 => ?_)
      obtain ⟨hσ1, hr1⟩ := hq1
      rw [hσ1]
      have hr1 : r1 = if bt un w = true then 1 else 0 := hr1 w (by omega) rfl
      refine ⟨fun h => ⟨by decide, ?_⟩, fun h => ?_⟩
      · have h : r1 = 0 := h
        have hnb : ¬ bt un w = true := fun q => by rw [hr1, if_pos q] at h; exact absurd h i32_ne10
        have key := ih (w + 1) fp' qt' q' qu' fi' (by omega) ?_ hqq hqp
        · rw [← nI_1 w] at key
          exact key
        · have ex : ∀ v, (X v ∨ (v < w + 1 ∧ bt un v = true)) ↔ (X v ∨ (v < w ∧ bt un v = true)) := by
            intro v
            constructor
            · rintro (h | ⟨h1, h2⟩)
              · exact Or.inl h
              · by_cases e : v = w
                · subst e; exact absurd h2 hnb
                · exact Or.inr ⟨by omega, h2⟩
            · rintro (h | ⟨h1, h2⟩)
              · exact Or.inl h
              · exact Or.inr ⟨by omega, h2⟩
          have ef : (fun v => X v ∨ (v < w + 1 ∧ bt un v = true)) = fun v => X v ∨ (v < w ∧ bt un v = true) := funext fun v => propext (ex v)
          rw [ef]
          exact ⟨b1, b2, b3, b4, b5, b6, b7⟩
      · have h : ¬ r1 = 0 := h
        have hb : bt un w = true := by
          apply Classical.byContradiction
          intro q
          rw [hr1, if_neg q] at h
          exact h rfl
        obtain ⟨ha, hWw, hnX⟩ := (hunb w (by omega)).mp hb
        have hnX' : ¬ (X w ∨ (w < w ∧ bt un w = true)) := by
          rintro (q | ⟨q, -⟩)
          · exact hnX q
          · omega
        -- the finder's row
        have hfi : ∀ v, ¬ v = w → upd fi' w (nI t) v = fi' v := fun v hv => by unfold upd; rw [if_neg hv]
        have hfiw : upd fi' w (nI t) w = nI t := by unfold upd; rw [if_pos rfl]
        refine ⟨16, rfl, hiw, 16, rfl, hiw, fun h2 => ?_, fun h2 => ?_⟩
        · have h2 : ¬ σ 27 (nI w).toNatClampNeg = -1 := h2
          rw [ew] at h2
          obtain ⟨t', ht', htw, hwt⟩ : ∃ t', t' < 30 ∧ σ 27 w = nI t' ∧ σ 26 t' = nI w := by
            rcases hMI.2 w (by omega) with q | q
            · exact absurd q h2
            · exact q
          have hnew : ∀ i, i < q' → ¬ qt' i = t' := by
            intro i hi e
            rcases b4 i hi with q | ⟨v, hv, q1, q2, -⟩
            · rw [e, hwt] at q; exact nI_m1 (by omega) q
            · rw [e, hwt, nI_eq (by omega) (by omega)] at q1
              subst q1
              exact hnX' q2
          have hq'lt : q' < 30 := BI.qlt ⟨b1, b2, b3, b4, b5, b6, b7⟩ ht' hnew
          refine ⟨16, rfl, hiw, ?_⟩
          have hS1 : dk_up (SM σ (upd (upd (σ 25) 10 se) 9 (nI q')) (σ 26) (σ 27) qu' fi') 29 (upd fi' (nI w).toNatClampNeg (nI t)) = SM σ (upd (upd (σ 25) 10 se) 9 (nI q')) (σ 26) (σ 27) qu' (upd fi' w (nI t)) := by rw [ew, SM_29]
          show dk_call sp_enqueue [.inl (σ 27 (nI w).toNatClampNeg), .inr 25] (dk_up (SM σ (upd (upd (σ 25) 10 se) 9 (nI q')) (σ 26) (σ 27) qu' fi') 29 (upd fi' (nI w).toNatClampNeg (nI t))) _
          rw [hS1, ew, htw]
          have h99 : (SM σ (upd (upd (σ 25) 10 se) 9 (nI q')) (σ 26) (σ 27) qu' (upd fi' w (nI t))) 25 9 = nI q' := rfl
          refine dk_cs (nI t') rfl rfl rfl ⟨q', hq'lt, h99⟩ (fun _ σ2 hq2 => ?_)
          have hq2 := hq2 q' hq'lt h99
          rw [hq2, SM_SM]
          refine ⟨by decide, ?_⟩
          obtain ⟨qt2, hqt2⟩ : ∃ qt2, qt2 = fun i => if i = q' then t' else qt' i := ⟨_, rfl⟩
          obtain ⟨fp2, hfp2⟩ : ∃ fp2, fp2 = fun v => if v = w then p else fp' v := ⟨_, rfl⟩
          have hqn : qt2 q' = t' := by rw [hqt2]; simp
          have hqo : ∀ i, i < q' → qt2 i = qt' i := fun i hi => by rw [hqt2]; simp [show ¬ i = q' by omega]
          have hfn : fp2 w = p := by rw [hfp2]; simp
          have hfo : ∀ v, ¬ v = w → fp2 v = fp' v := fun v hv => by rw [hfp2]; simp [hv]
          have key := ih (w + 1) fp2 qt2 (q' + 1) (upd qu' q' (nI t')) (upd fi' w (nI t)) (by omega) ?_ (by omega) (by rw [hqo p (by omega)]; exact hqp)
          · rw [← nI_1 w] at key
            have ec : upd (upd (upd (σ 25) 10 se) 9 (nI q')) 9 (nI (q' + 1)) = upd (upd (σ 25) 10 se) 9 (nI (q' + 1)) := by
              funext j; unfold upd; split <;> rfl
            rw [← ec] at key
            exact key
          · have hXw : ∀ v, (X v ∨ (v < w + 1 ∧ bt un v = true)) → v = w ∨ (X v ∨ (v < w ∧ bt un v = true)) := by
              rintro v (h | ⟨h1, h2⟩)
              · exact Or.inr (Or.inl h)
              · by_cases e : v = w
                · exact Or.inl e
                · exact Or.inr (Or.inr ⟨by omega, h2⟩)
            have hXo : ∀ v, (X v ∨ (v < w ∧ bt un v = true)) → (X v ∨ (v < w + 1 ∧ bt un v = true)) := by
              rintro v (h | ⟨h1, h2⟩)
              · exact Or.inl h
              · exact Or.inr ⟨by omega, h2⟩
            refine ⟨fun i hi => ?_, fun i j hi hj e => ?_, fun v hv hx => ?_, fun i hi => ?_, fun v hv hx hv16 => ?_, fun i hi v hv ha' hW' => ?_, fun s hs hrs hws => ?_⟩
            · by_cases e : i = q'
              · subst e
                rw [hqn]
                exact ⟨by simp [upd], ht', hrun t' ht' (by rw [hwt]; exact nI_m1 (by omega))⟩
              · rw [hqo i (by omega)]
                obtain ⟨c1, c2, c3⟩ := b1 i (by omega)
                refine ⟨?_, c2, c3⟩
                unfold upd
                rw [if_neg e]
                exact c1
            · by_cases e1 : i = q' <;> by_cases e2 : j = q'
              · omega
              · rw [e1, hqn, hqo j (by omega)] at e
                exact absurd e.symm (hnew j (by omega))
              · rw [e2, hqn, hqo i (by omega)] at e
                exact absurd e (hnew i (by omega))
              · rw [hqo i (by omega), hqo j (by omega)] at e
                exact b2 i j (by omega) (by omega) e
            · rcases hXw v hx with rfl | hx
              · rw [hfn, hqo p (by omega), hqp, hfiw]
                exact ⟨rfl, by omega, ha, hWw⟩
              · have hvw : ¬ v = w := fun e => by subst e; exact hnX' hx
                obtain ⟨c1, c2, c3, c4⟩ := b3 v hv hx
                rw [hfo v hvw, hqo _ c2, hfi v hvw]
                exact ⟨c1, by omega, c3, c4⟩
            · by_cases e : i = q'
              · subst e
                rw [hqn]
                exact Or.inr ⟨w, by omega, hwt, Or.inr ⟨by omega, hb⟩, by rw [hfn]; omega⟩
              · rw [hqo i (by omega)]
                rcases b4 i (by omega) with q | ⟨v, hv, c1, c2, c3⟩
                · exact Or.inl q
                · have hvw : ¬ v = w := fun e => by subst e; exact hnX' c2
                  exact Or.inr ⟨v, hv, c1, hXo v c2, by rw [hfo v hvw]; exact c3⟩
            · rcases hXw v hx with rfl | hx
              · exact ⟨q', by omega, by rw [hqn]; exact htw⟩
              · obtain ⟨i, hi, c⟩ := b5 v hv hx hv16
                exact ⟨i, by omega, by rw [hqo i hi]; exact c⟩
            · rw [hqo i (by omega)] at ha'
              exact hXo v (b6 i hi v hv ha' hW')
            · obtain ⟨i, hi, c⟩ := b7 s hs hrs hws
              exact ⟨i, by omega, by rw [hqo i hi]; exact c⟩
        · have h2 : ¬ ¬ σ 27 (nI w).toNatClampNeg = -1 := h2
          rw [ew] at h2
          have h2 := Classical.not_not.mp h2
          obtain ⟨fp2, hfp2⟩ : ∃ fp2, fp2 = fun v => if v = w then p else fp' v := ⟨_, rfl⟩
          have hfn : fp2 w = p := by rw [hfp2]; simp
          have hfo : ∀ v, ¬ v = w → fp2 v = fp' v := fun v hv => by rw [hfp2]; simp [hv]
          refine post (nI w) _ ⟨fun v => v = w ∨ (X v ∨ (v < w ∧ bt un v = true)), fp2, qt', q', qu', upd fi' w (nI t), se, ?_, hqq, hup, Or.inr ⟨w, by omega, rfl, h2, Or.inl rfl, ?_⟩⟩
          · show dk_up (SM σ (upd (upd (σ 25) 10 se) 9 (nI q')) (σ 26) (σ 27) qu' fi') 29 (upd fi' (nI w).toNatClampNeg (nI t)) = _
            rw [ew, SM_29]
          · refine ⟨b1, b2, fun v hv hx => ?_, fun i hi => ?_, fun v hv hx hvd => ?_, fun i hi => by omega, b7⟩
            · rcases hx with rfl | hx
              · rw [hfn, hqp, hfiw]
                exact ⟨rfl, by omega, ha, hWw⟩
              · have hvw : ¬ v = w := fun e => by subst e; exact hnX' hx
                obtain ⟨c1, c2, c3, c4⟩ := b3 v hv hx
                rw [hfo v hvw, hfi v hvw]
                exact ⟨c1, c2, c3, c4⟩
            · rcases b4 i hi with q | ⟨v, hv, c1, c2, c3⟩
              · exact Or.inl q
              · have hvw : ¬ v = w := fun e => by subst e; exact hnX' c2
                exact Or.inr ⟨v, hv, c1, Or.inr c2, by rw [hfo v hvw]; exact c3⟩
            · rcases hx with rfl | hx
              · exact absurd rfl hvd
              · exact b5 v hv hx (by omega)
  refine hC.go (fun q => if q = 29 then some 5 else none) 60 ?_
  refine ⟨30, rfl, vp_in_nI ht30 (by omega), by decide, by decide, ?_⟩
  have key := loop 16 0 fp qt q (σ 28) (σ 29) (by omega) ?_ (Nat.le_refl _) ht.symm
  · have e : SM σ (upd (upd (σ 25) 10 se) 9 (nI q)) (σ 26) (σ 27) (σ 28) (σ 29) = dk_up σ 25 (upd (σ 25) 10 (σ 25 10 ||| un)) := by
      conv => rhs; rw [← SM_id (σ := σ)]
      rw [SM_25]
      have : upd (upd (σ 25) 10 se) 9 (nI q) = upd (σ 25) 10 (σ 25 10 ||| un) := by
        funext j
        unfold upd
        by_cases c : j = 9
        · subst c; rw [if_pos rfl, if_neg (by omega), h9]
        · rw [if_neg c, hse]
      rw [this]
      rfl
    rw [e, hun] at key
    rw [et]
    exact key
  · have ef : (fun v => X v ∨ (v < 0 ∧ bt un v = true)) = X := funext fun v => propext ⟨fun h => by
      rcases h with h | ⟨h, -⟩
      · exact h
      · omega, Or.inl⟩
    rw [ef]
    exact hBI0
