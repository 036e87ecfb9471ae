/-! passWorkersOn, widen -/
/-- one pair more: no task loses its worker but for another one of W -/
def AUG (ru : Int32) (sk : Nat → Int32) (W : Int32) (wt wt' tw' : Nat → Int32) : Prop :=
  MI wt' tw' ∧ (∃ t0, t0 < 30 ∧ wt t0 = -1 ∧ bt ru t0 = true ∧ ∀ t, t < 30 → (¬ wt' t = -1 ↔ (¬ wt t = -1 ∨ t = t0))) ∧
  ∀ t, t < 30 → wt' t = wt t ∨ ∃ w, w < 16 ∧ wt' t = nI w ∧ bt (sk t) w = true ∧ bt W w = true ∧ bt ru t = true ∧ (wt t = -1 ∨ ∃ w0, w0 < 16 ∧ wt t = nI w0 ∧ bt W w0 = true)
def pw (σ : dk_S) (W : Int32) (X : Nat → Prop) (fp qt : Nat → Nat) (q d : Nat) : Prop := d < 16 ∧ σ 27 d = -1 ∧ X d ∧ BI (σ 25 3) (σ 8) (σ 26) (σ 27) (σ 28) (σ 29) q W X fp qt 0 d ∧ MI (σ 26) (σ 27)
/-- workers on the way back from d -/
def CHd (σ : dk_S) (d w : Nat) : Prop := ∀ P : Nat → Prop, P d → (∀ w t w', P w → t < 30 → w' < 16 → σ 29 w = nI t → σ 26 t = nI w' → P w') → P w
theorem CHd.in {σ : dk_S} {W : Int32} {X : Nat → Prop} {fp qt : Nat → Nat} {q d : Nat} (h : pw σ W X fp qt q d) {w : Nat} (hc : CHd σ d w) : w < 16 ∧ X w := by
  obtain ⟨h1, h2, h3, h4, h5⟩ := h
  refine hc (fun w => w < 16 ∧ X w) ⟨h1, h3⟩ ?_
  rintro w t w' ⟨q1, q2⟩ ht hw' e1 e2
  obtain ⟨c1, c2, c3, c4⟩ := h4.2.2.1 w q1 q2
  have h30 := (h4.1 _ c2).2.1
  rw [e1, nI_eq (by omega) (by omega)] at c1
  subst c1
  rcases h4.2.2.2.1 _ c2 with r | ⟨v, hv, r1, r2, -⟩
  · rw [e2] at r; exact absurd r (nI_m1 (by omega))
  · rw [e2, nI_eq (by omega) (by omega)] at r1
    subst r1
    exact ⟨hv, r2⟩
abbrev sp_passOn : dk_M := dk_sp 2 false (fun x : Int32 => [.inr 25, .inl x]) (fun x σ => ∃ W X fp qt q d, x = nI d ∧ pw σ W X fp qt q d)
  (fun x σ _ σ' => ∀ W X fp qt q d, x = nI d → pw σ W X fp qt q d → ∃ wt' tw', σ' = SM σ (σ 25) wt' tw' (σ 28) (σ 29) ∧ AUG (σ 25 3) (σ 8) W (σ 26) wt' tw')
set_option maxRecDepth 100000 in
set_option maxHeartbeats 4000000 in
theorem q_passOn : dk_pure (kX3_passWorkersOn, fX3, [(91, sp_pair)], [], nX3, 6, false) sp_passOn := by
  refine dk_sp_pure (fun x x' e => by cases e; rfl) (fun _ => rfl) ?_
  rintro OK x σ ⟨W0, X0, fp0, qt0, q0, d, rfl, hpw0⟩ hC
  have hd16 := hpw0.1
  -- the walk, for a set of facts; the store's end is the same for all: the facts come last
  obtain ⟨-, htwd, hXd, hBI, hMI⟩ := hpw0
  have hq30 := hBI.q30
  obtain ⟨b1, b2, b3, b4, b5, -, -⟩ := hBI
  have loop : ∀ (n i v : Nat) (wt' tw' : Nat → Int32), v < 16 → X0 v → cp (fun w => X0 w ∧ fp0 w ≤ fp0 v) 16 ≤ n → i + n ≤ 16 →
      (∀ t, t < 30 → wt' t = -1 ∨ ∃ w, w < 16 ∧ wt' t = nI w ∧ tw' w = nI t) → (∀ w, w < 16 → ¬ w = v → tw' w = -1 ∨ ∃ t, t < 30 ∧ tw' w = nI t ∧ wt' t = nI w) → (∀ t, t < 30 → ¬ wt' t = nI v) →
      (∀ j, j ≤ fp0 v → wt' (qt0 j) = σ 26 (qt0 j)) → (∀ t, t < 30 → (¬ wt' t = -1 ↔ ¬ σ 26 t = -1)) →
      CHd σ d v → (∀ t, t < 30 → wt' t = σ 26 t ∨ ∃ w, CHd σ d w ∧ wt' t = nI w ∧ σ 29 w = nI t) →
      OK 4 [(0, .inr 25), (1, .inl (nI d)), (2, .inl (nI v)), (3, .inl (nI i))] [] (SM σ (σ 25) wt' tw' (σ 28) (σ 29)) := by
    intro n
    induction n with
    | zero =>
      intro i v wt' tw' hv hX hc
      exfalso
      have h1 := cp_remove (Q := fun w => X0 w ∧ fp0 w ≤ fp0 v) (m := 16) hv ⟨hX, Nat.le_refl _⟩
      omega
    | succ n ih =>
      intro i v wt' tw' hv hX hc hi hA hB hCv hD hE hCH hF
      obtain ⟨c1, c2, c3, c4⟩ := b3 v hv hX
      obtain ⟨t, ht⟩ : ∃ t, t = qt0 (fp0 v) := ⟨_, rfl⟩
      rw [← ht] at c1 c3
      have ht30 : t < 30 := by rw [ht]; exact (b1 _ c2).2.1
      have hrt : bt (σ 25 3) t = true := by rw [ht]; exact (b1 _ c2).2.2
      have et : (nI t).toNatClampNeg = t := nI_clamp (by omega)
      have ev : (nI v).toNatClampNeg = v := nI_clamp (by omega)
      have hwt : wt' t = σ 26 t := by rw [ht]; exact hD _ (Nat.le_refl _)
      have hu1 : upd wt' t (nI v) t = nI v := by simp [upd]
      have hu2 : ∀ s, ¬ s = t → upd wt' t (nI v) s = wt' s := fun s hs => by simp [upd, hs]
      have hv1 : upd tw' v (nI t) v = nI t := by simp [upd]
      have hv2 : ∀ w, ¬ w = v → upd tw' v (nI t) w = tw' w := fun w hw => by simp [upd, hw]
      have hA' : ∀ s, s < 30 → upd wt' t (nI v) s = -1 ∨ ∃ w, w < 16 ∧ upd wt' t (nI v) s = nI w ∧ upd tw' v (nI t) w = nI s := by
        intro s hs
        by_cases e : s = t
        · subst e; exact Or.inr ⟨v, hv, hu1, hv1⟩
        · rw [hu2 s e]
          rcases hA s hs with q | ⟨w, hw, q1, q2⟩
          · exact Or.inl q
          · have hwv : ¬ w = v := fun e2 => hCv s hs (by rw [q1, e2])
            exact Or.inr ⟨w, hw, q1, by rw [hv2 w hwv]; exact q2⟩
      have hF' : ∀ s, s < 30 → upd wt' t (nI v) s = σ 26 s ∨ ∃ w, CHd σ d w ∧ upd wt' t (nI v) s = nI w ∧ σ 29 w = nI s := by
        intro s hs
        by_cases e : s = t
        · subst e; exact Or.inr ⟨v, hCH, hu1, c1⟩
        · rw [hu2 s e]; exact hF s hs
      refine hC.go (fun q => if q = 4 then some 4 else none) 60 ?_
      refine ⟨fun h => ?_, fun _ => ⟨fun h => absurd (show nI v = -1 from h) (nI_m1 (by omega)), fun _ => ⟨16, rfl, vp_in_nI hv (by omega), by decide, 30, rfl, ?_, by decide, ?_⟩⟩⟩
      · exfalso
        have h : nI 16 ≤ nI i := h
        rw [nI_leI (by omega) (by omega)] at h
        omega
      · show vp_in (σ 29 (nI v).toNatClampNeg) 30
        rw [ev, c1]; exact vp_in_nI ht30 (by omega)
      · refine dk_cs (nI t, nI v) rfl rfl ?_ ⟨⟨t, ht30, rfl⟩, v, hv, rfl⟩ (fun _ σ1 hq => ?_)
        · show ([.inr 25, .inl (σ 29 (nI v).toNatClampNeg), .inl (nI v)] : List dk_V) = [.inr 25, .inl (nI t), .inl (nI v)]
          rw [ev, c1]
        have hq : σ1 = SM σ (σ 25) (upd wt' (nI t).toNatClampNeg (nI v)) (upd tw' (nI v).toNatClampNeg (nI t)) (σ 28) (σ 29) := by
          rw [hq]
          exact SM_SM
        rw [et, ev] at hq
        rw [hq]
        refine ⟨by decide, by decide, ?_⟩
        show OK 4 [(0, .inr 25), (1, .inl (nI d)), (2, .inl (wt' (σ 29 (nI v).toNatClampNeg).toNatClampNeg)), (3, .inl (nI i + 1))] [] (SM σ (σ 25) (upd wt' t (nI v)) (upd tw' v (nI t)) (σ 28) (σ 29))
        rw [ev, c1, et, nI_1]
        have hold := b4 (fp0 v) c2
        rw [← ht, ← hwt] at hold
        rcases hold with hold | ⟨w, hw, hold, hXw, hfw⟩
        · -- the root: all agrees now
          rw [hold]
          refine hC.go (fun _ => none) 60 ?_
          have fin : ∀ W X fp qt q d', nI d = nI d' → pw σ W X fp qt q d' → ∃ wt2 tw2, SM σ (σ 25) (upd wt' t (nI v)) (upd tw' v (nI t)) (σ 28) (σ 29) = SM σ (σ 25) wt2 tw2 (σ 28) (σ 29) ∧ AUG (σ 25 3) (σ 8) W (σ 26) wt2 tw2 := by
            intro W X fp qt q d' hd hp
            have hd' := hp.1
            rw [nI_eq (by omega) (by omega)] at hd
            subst hd
            refine ⟨_, _, rfl, ⟨hA', ?_⟩, ⟨t, ht30, by rw [← hwt]; exact hold, hrt, fun s hs => ?_⟩, fun s hs => ?_⟩
            · intro x hx
              by_cases e : x = v
              · subst e; exact Or.inr ⟨t, ht30, hv1, hu1⟩
              · rw [hv2 x e]
                rcases hB x hx e with q | ⟨s, hs, q1, q2⟩
                · exact Or.inl q
                · have hst : ¬ s = t := fun e2 => by
                    rw [e2, hold] at q2
                    exact nI_m1 (by omega) q2.symm
                  exact Or.inr ⟨s, hs, q1, by rw [hu2 s hst]; exact q2⟩
            · by_cases e : s = t
              · subst e
                rw [hu1]
                exact ⟨fun _ => Or.inr rfl, fun _ => nI_m1 (by omega)⟩
              · rw [hu2 s e, hE s hs]
                exact ⟨Or.inl, fun q => q.resolve_right e⟩
            · rcases hF' s hs with q | ⟨w, q1, q2, q3⟩
              · exact Or.inl q
              · right
                obtain ⟨hw16, hXw⟩ := CHd.in hp q1
                obtain ⟨-, -, -, hBI2, -⟩ := hp
                obtain ⟨e1, e2, e3, e4⟩ := hBI2.2.2.1 w hw16 hXw
                have h30 := hBI2.1 _ e2
                rw [q3, nI_eq (by omega) (by omega)] at e1
                subst e1
                refine ⟨w, hw16, q2, e3, e4, h30.2.2, ?_⟩
                rcases hBI2.2.2.2.1 _ e2 with r | ⟨x, hx, r1, r2, -⟩
                · exact Or.inl r
                · exact Or.inr ⟨x, hx, r1, (hBI2.2.2.1 x hx r2).2.2.2⟩
          exact ⟨fun _ => fin, fun _ => ⟨fun _ => fin, fun q => absurd rfl q⟩⟩
        · rw [hold]
          have hwv : ¬ w = v := fun e => by
            rw [e] at hold
            exact hCv t ht30 hold
          refine ih (i + 1) w _ _ hw hXw ?_ (by omega) hA' ?_ ?_ ?_ ?_ ?_ ?_
          · have h1 := cp_remove (Q := fun x => X0 x ∧ fp0 x ≤ fp0 v) (m := 16) hv ⟨hX, Nat.le_refl _⟩
            have h2 : cp (fun x => X0 x ∧ fp0 x ≤ fp0 w) 16 ≤ cp (fun x => (X0 x ∧ fp0 x ≤ fp0 v) ∧ ¬ x = v) 16 := cp_mono (fun x hx q => ⟨⟨q.1, by omega⟩, fun e => by rw [e] at q; omega⟩)
            omega
          · intro x hx hxw
            by_cases e : x = v
            · subst e; exact Or.inr ⟨t, ht30, hv1, hu1⟩
            · rw [hv2 x e]
              rcases hB x hx e with q | ⟨s, hs, q1, q2⟩
              · exact Or.inl q
              · have hst : ¬ s = t := fun e2 => by
                  rw [e2, hold, nI_eq (by omega) (by omega)] at q2
                  exact hxw q2.symm
                exact Or.inr ⟨s, hs, q1, by rw [hu2 s hst]; exact q2⟩
          · intro s hs q
            by_cases e : s = t
            · subst e
              rw [hu1, nI_eq (by omega) (by omega)] at q
              exact hwv q.symm
            · rw [hu2 s e] at q
              rcases hA s hs with q1 | ⟨x, hx, q1, q2⟩
              · rw [q1] at q; exact nI_m1 (by omega) q.symm
              · rw [q1, nI_eq (by omega) (by omega)] at q
                subst q
                rcases hA t ht30 with r1 | ⟨y, hy, r1, r2⟩
                · rw [r1] at hold; exact nI_m1 (by omega) hold.symm
                · rw [hold, nI_eq (by omega) (by omega)] at r1
                  subst r1
                  rw [q2, nI_eq (by omega) (by omega)] at r2
                  exact e r2
          · intro j hj
            have hjt : ¬ qt0 j = t := fun e => by
              rw [ht] at e
              have := b2 j (fp0 v) (by omega) c2 e
              omega
            rw [hu2 _ hjt]
            exact hD j (by omega)
          · intro s hs
            by_cases e : s = t
            · subst e
              rw [hu1, ← hwt, hold]
              exact ⟨fun _ => nI_m1 (by omega), fun _ => nI_m1 (by omega)⟩
            · rw [hu2 s e]; exact hE s hs
          · exact fun P h0 hs => hs v t w (hCH P h0 hs) ht30 hw c1 (hwt.symm.trans hold)
          · exact hF'
  refine hC.go (fun q => if q = 4 then some 4 else none) 60 ?_
  refine ⟨by decide, by decide, ?_⟩
  have key := loop 16 0 d (σ 26) (σ 27) hd16 hXd (cp_le _ _) (by omega) hMI.1 (fun w hw _ => hMI.2 w hw) (fun t ht e => by
    rcases hMI.1 t ht with q | ⟨w, hw, q1, q2⟩
    · rw [q] at e; exact nI_m1 (by omega) e.symm
    · rw [q1, nI_eq (by omega) (by omega)] at e
      subst e
      rw [htwd] at q2
      exact nI_m1 (by omega) q2.symm) (fun j _ => rfl) (fun t _ => Iff.rfl) (fun P h0 _ => h0) (fun t _ => Or.inl rfl)
  rw [SM_id] at key
  exact key
abbrev sp_widen : dk_M := dk_sp 2 true (fun W : Int32 => [.inr 25, .inl W]) (fun _ σ => MI (σ 26) (σ 27) ∧ ∀ t, t < 30 → ¬ σ 26 t = -1 → bt (σ 25 3) t = true)
  (fun W σ r σ' => (r = 1 ∧ ∃ wt' tw' qu fi se q, σ' = SM σ (upd (upd (σ 25) 10 se) 9 (nI q)) wt' tw' qu fi ∧ AUG (σ 25 3) (σ 8) W (σ 26) wt' tw') ∨ (r = 0 ∧ ∃ qu fi se q X fp qt, σ' = SM σ (upd (upd (σ 25) 10 se) 9 (nI q)) (σ 26) (σ 27) qu fi ∧ BI (σ 25 3) (σ 8) (σ 26) (σ 27) qu fi q W X fp qt q 16 ∧ (∀ w, w < 16 → (X w ↔ bt se w = true)) ∧ ∀ i, i < 32 → bt se i = true → bt W i = true))
set_option maxRecDepth 100000 in
set_option maxHeartbeats 4000000 in
theorem q_widen : dk_pure (kX3_widen, fX3, [(81, sp_enqueue), (85, sp_see), (88, sp_passOn)], [(55, sp_holdsBit)], nX3, 4, true) sp_widen := by
  refine dk_sp_pure (fun x x' e => by cases e; rfl) (fun _ => rfl) ?_
  rintro OK W σ ⟨hMI, hrun⟩ hC
  have u99 : ∀ (c : Nat → Int32) (se a b : Int32), upd (upd (upd c 10 se) 9 a) 9 b = upd (upd c 10 se) 9 b := fun c se a b => by
    funext j; unfold upd; split <;> rfl
  have u109 : ∀ (c : Nat → Int32) (se se' a b : Int32), upd (upd (upd (upd c 10 se) 9 a) 10 se') 9 b = upd (upd c 10 se') 9 b := fun c se se' a b => by
    funext j; unfold upd
    by_cases e : j = 9
    · rw [if_pos e, if_pos e]
    · rw [if_neg e, if_neg e]
      by_cases e2 : j = 10
      · rw [if_pos e2, if_neg e, if_pos e2]
      · simp [e, e2]
  have loop2 : ∀ (n p q : Nat) (qu fi : Nat → Int32) (se : Int32) (X : Nat → Prop) (fp qt : Nat → Nat), p + n = 31 → p ≤ q → BI (σ 25 3) (σ 8) (σ 26) (σ 27) qu fi q W X fp qt p 16 → (∀ w, w < 16 → (X w ↔ bt se w = true)) → (∀ i, i < 32 → bt se i = true → bt W i = true) → OK 52 [(0, .inr 25), (1, .inl W), (2, .inl (nI p))] [] (SM σ (upd (upd (σ 25) 10 se) 9 (nI q)) (σ 26) (σ 27) qu fi) := by
    intro n
    induction n with
    | zero =>
      intro p q qu fi se X fp qt hn hpq hB hX hup
      exfalso
      have := hB.q30
      omega
    | succ n ih =>
      intro p q qu fi se X fp qt hn hpq hB hX hup
      have hq30 := hB.q30
      have fin2 : p = q → ((0 : Int32) = 1 ∧ ∃ wt' tw' qu' fi' se' q', SM σ (upd (upd (σ 25) 10 se) 9 (nI q)) (σ 26) (σ 27) qu fi = SM σ (upd (upd (σ 25) 10 se') 9 (nI q')) wt' tw' qu' fi' ∧ AUG (σ 25 3) (σ 8) W (σ 26) wt' tw') ∨ ((0 : Int32) = 0 ∧ ∃ qu' fi' se' q' X fp qt, SM σ (upd (upd (σ 25) 10 se) 9 (nI q)) (σ 26) (σ 27) qu fi = SM σ (upd (upd (σ 25) 10 se') 9 (nI q')) (σ 26) (σ 27) qu' fi' ∧ BI (σ 25 3) (σ 8) (σ 26) (σ 27) qu' fi' q' W X fp qt q' 16 ∧ (∀ w, w < 16 → (X w ↔ bt se' w = true)) ∧ ∀ i, i < 32 → bt se' i = true → bt W i = true) := fun e => by
        subst e
        exact Or.inr ⟨rfl, qu, fi, se, p, X, fp, qt, rfl, hB, hX, hup⟩
      refine hC.go (fun q => if q = 52 then some 3 else none) 60 ?_
      refine ⟨fun h => ⟨Or.inl rfl, fin2 ?_⟩, fun h => ⟨fun h2 => ⟨Or.inl rfl, fin2 ?_⟩, fun h2 => ?_⟩⟩
      · have h : nI q ≤ nI p := h
        rw [nI_leI (by omega) (by omega)] at h
        omega
      · have h2 : nI 30 ≤ nI p := h2
        rw [nI_leI (by omega) (by omega)] at h2
        omega
      · have h : ¬ nI q ≤ nI p := h
        rw [nI_leI (by omega) (by omega)] at h
        have ep : (nI p).toNatClampNeg = p := nI_clamp (by omega)
        have hqp := hB.1 p (by omega)
        refine ⟨30, rfl, vp_in_nI (by omega) (by omega), ?_⟩
        have hsp : sp1 (SM σ (upd (upd (σ 25) 10 se) 9 (nI q)) (σ 26) (σ 27) qu fi) (nI (qt p)) W X fp qt q p := ⟨rfl, by omega, rfl, hB, hX, hMI, hrun⟩
        refine dk_cs (nI (qt p), W) rfl rfl ?_ ⟨X, fp, qt, q, p, hsp⟩ (fun r σ1 hq => ?_)
        · show ([.inr 25, .inl (qu (nI p).toNatClampNeg), .inl W] : List dk_V) = [.inr 25, .inl (nI (qt p)), .inl W]
          rw [ep, hqp.1]
        obtain ⟨X', fp', qt', q', qu', fi', se', hσ1, hqq, hup', hcase⟩ := hq X fp qt q p hsp
        have hσ1 : σ1 = SM σ (upd (upd (σ 25) 10 se') 9 (nI q')) (σ 26) (σ 27) qu' fi' := by
          rw [hσ1, SM_SM]
          show SM σ (upd (upd (upd (upd (σ 25) 10 se) 9 (nI q)) 10 se') 9 (nI q')) (σ 26) (σ 27) qu' fi' = _
          rw [u109]
        rw [hσ1]
        refine ⟨by decide, ?_⟩
        have hcase : (r = -1 ∧ BI (σ 25 3) (σ 8) (σ 26) (σ 27) qu' fi' q' W X' fp' qt' (p + 1) 16 ∧ ∀ w, w < 16 → (X' w ↔ bt se' w = true)) ∨ ∃ d, d < 16 ∧ r = nI d ∧ σ 27 d = -1 ∧ X' d ∧ BI (σ 25 3) (σ 8) (σ 26) (σ 27) qu' fi' q' W X' fp' qt' 0 d := hcase
        rcases hcase with ⟨hr, hB', hX'⟩ | ⟨d, hd, hr, htw, hXd, hB'⟩
        · subst hr
          refine ⟨fun _ => ⟨by decide, ?_⟩, fun q => absurd rfl q⟩
          have key := ih (p + 1) q' qu' fi' se' X' fp' qt' (by omega) (by omega) hB' hX' (fun i hi hb => (hup' i hi hb).elim (fun c => hup i hi c) (fun c => c))
          rw [← nI_1 p] at key
          exact key
        · subst hr
          refine ⟨fun q => absurd q (nI_m1 (by omega)), fun _ => ?_⟩
          have hpw : pw (SM σ (upd (upd (σ 25) 10 se') 9 (nI q')) (σ 26) (σ 27) qu' fi') W X' fp' qt' q' d := ⟨hd, htw, hXd, hB', hMI⟩
          refine dk_cs (nI d) rfl rfl rfl ⟨W, X', fp', qt', q', d, rfl, hpw⟩ (fun _ σ2 hq2 => ?_)
          obtain ⟨wt', tw', hσ2, hAUG⟩ := hq2 W X' fp' qt' q' d rfl hpw
          exact ⟨Or.inr rfl, Or.inl ⟨rfl, wt', tw', qu', fi', se', q', by rw [hσ2, SM_SM]; rfl, hAUG⟩⟩
  have loop1 : ∀ (n t q : Nat) (qu : Nat → Int32) (qt : Nat → Nat), t + n = 30 → q ≤ t → (∀ i, i < q → qu i = nI (qt i) ∧ qt i < t ∧ bt (σ 25 3) (qt i) = true ∧ σ 26 (qt i) = -1) → (∀ i j, i < q → j < q → qt i = qt j → i = j) → (∀ s, s < t → bt (σ 25 3) s = true → σ 26 s = -1 → ∃ i, i < q ∧ qt i = s) → OK 12 [(0, .inr 25), (1, .inl W), (2, .inl (nI t))] [] (SM σ (upd (upd (σ 25) 10 0) 9 (nI q)) (σ 26) (σ 27) qu (σ 29)) := by
    intro n
    induction n with
    | zero =>
      intro t q qu qt ht hqt h1 h2 h3
      have ht : t = 30 := by omega
      subst ht
      refine hC.go (fun q => if q = 52 then some 3 else none) 60 ?_
      refine ⟨fun _ => ⟨by decide, ?_⟩, fun h => absurd (show nI 30 ≤ nI 30 by decide) h⟩
      have key := loop2 31 0 q qu (σ 29) 0 (fun _ => False) (fun _ => 0) qt (by omega) (by omega) ⟨fun i hi => ⟨(h1 i hi).1, (h1 i hi).2.1, (h1 i hi).2.2.1⟩, h2, fun w _ hx => hx.elim, fun i hi => Or.inl (h1 i hi).2.2.2, fun w _ hx => hx.elim, fun i hi => by omega, h3⟩ (fun w hw => by rw [b_0]; simp) (fun i hi hb => by rw [b_0] at hb; cases hb)
      exact key
    | succ n ih =>
      intro t q qu qt ht hqt h1 h2 h3
      have et : (nI t).toNatClampNeg = t := nI_clamp (by omega)
      have skip : (bt (σ 25 3) t = true → ¬ σ 26 t = -1) → OK 12 [(0, .inr 25), (1, .inl W), (2, .inl (nI t + 1))] [] (SM σ (upd (upd (σ 25) 10 0) 9 (nI q)) (σ 26) (σ 27) qu (σ 29)) := by
        intro hs
        rw [nI_1]
        refine ih (t + 1) q qu qt (by omega) (by omega) (fun i hi => ?_) h2 (fun s hs1 hs2 hs3 => ?_)
        · obtain ⟨a1, a2, a3, a4⟩ := h1 i hi
          exact ⟨a1, by omega, a3, a4⟩
        · by_cases e : s = t
          · subst e; exact absurd hs3 (hs hs2)
          · exact h3 s (by omega) hs2 hs3
      refine hC.go (fun q => if q = 12 then some 3 else none) 60 ?_
      refine ⟨fun h => ?_, fun _ => ?_⟩
      · exfalso
        have h : nI 30 ≤ nI t := h
        rw [nI_leI (by omega) (by omega)] at h
        omega
      refine dk_cs (σ 25 3, nI t) rfl rfl rfl ⟨t, by omega, rfl⟩ (fun r1 σ1 hq1 => ?_)
      obtain ⟨hσ1, hr1⟩ := hq1
      rw [hσ1]
      have hr1 : r1 = if bt (σ 25 3) t = true then 1 else 0 := hr1 t (by omega) rfl
      refine ⟨fun h => ⟨by decide, skip (fun q => ?_)⟩, fun h => ⟨30, rfl, vp_in_nI (by omega) (by omega), fun h2' => ⟨by decide, skip (fun _ => ?_)⟩, fun h2' => ?_⟩⟩
      · exfalso
        have h : r1 = 0 := h
        rw [hr1, if_pos q] at h
        exact absurd h i32_ne10
      · have h2' : ¬ σ 26 (nI t).toNatClampNeg = -1 := h2'
        rw [et] at h2'
        exact h2'
      · have h2' : ¬ ¬ σ 26 (nI t).toNatClampNeg = -1 := h2'
        rw [et] at h2'
        have h2' := Classical.not_not.mp h2'
        have h : ¬ r1 = 0 := h
        have hrt : bt (σ 25 3) t = true := by
          apply Classical.byContradiction
          intro q
          rw [hr1, if_neg q] at h
          exact h rfl
        have h99 : (SM σ (upd (upd (σ 25) 10 0) 9 (nI q)) (σ 26) (σ 27) qu (σ 29)) 25 9 = nI q := rfl
        refine dk_cs (nI t) rfl rfl rfl ⟨q, by omega, h99⟩ (fun _ σ2 hq2 => ?_)
        have hq2 := hq2 q (by omega) h99
        rw [hq2, SM_SM]
        refine ⟨by decide, ?_⟩
        have key := ih (t + 1) (q + 1) (upd qu q (nI t)) (fun i => if i = q then t else qt i) (by omega) (by omega) (fun i hi => ?_) (fun i j hi hj e => ?_) (fun s hs1 hs2 hs3 => ?_)
        · rw [← nI_1 t, ← u99 (σ 25) 0 (nI q)] at key
          exact key
        · try dsimp only
          by_cases e : i = q
          · rw [if_pos e, e]
            exact ⟨by simp [upd], by omega, hrt, h2'⟩
          · rw [if_neg e]
            obtain ⟨a1, a2, a3, a4⟩ := h1 i (by omega)
            exact ⟨by simp [upd, e, a1], by omega, a3, a4⟩
        · try dsimp only at e
          by_cases e1 : i = q <;> by_cases e2 : j = q
          · omega
          · rw [if_pos e1, if_neg e2] at e
            have := (h1 j (by omega)).2.1
            omega
          · rw [if_neg e1, if_pos e2] at e
            have := (h1 i (by omega)).2.1
            omega
          · rw [if_neg e1, if_neg e2] at e
            exact h2 i j (by omega) (by omega) e
        · by_cases e : s = t
          · exact ⟨q, by omega, by simp [e]⟩
          · obtain ⟨i, hi, c⟩ := h3 s (by omega) hs2 hs3
            exact ⟨i, by omega, by simp [show ¬ i = q by omega, c]⟩
  refine hC.go (fun q => if q = 12 then some 3 else none) 60 ?_
  refine ⟨by decide, ?_⟩
  have key := loop1 30 0 0 (σ 28) (fun _ => 0) (by omega) (by omega) (fun i hi => by omega) (fun i j hi => by omega) (fun s hs => by omega)
  have e : SM σ (upd (upd (σ 25) 10 0) 9 (nI 0)) (σ 26) (σ 27) (σ 28) (σ 29) = dk_up (dk_up σ 25 (upd (σ 25) 9 0)) 25 (upd (upd (σ 25) 9 0) 10 0) := by
    rw [dk_up_up]
    conv => rhs; rw [← SM_id (σ := σ)]
    rw [SM_25]
    have : upd (upd (σ 25) 10 0) 9 (nI 0) = upd (upd (σ 25) 9 0) 10 0 := by
      funext j
      unfold upd
      by_cases c : j = 9
      · subst c; rfl
      · rw [if_neg c]
        split
        · rfl
        · rfl
    rw [this]
    rfl
  rw [e] at key
  exact key
