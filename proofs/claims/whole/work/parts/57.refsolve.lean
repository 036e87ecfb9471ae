/-! the reference's solve and what it answers out of it -/
theorem bX_0 (n : Nat) : bX n (-1) 0 = fun _ => 0 := by
  funext j
  unfold bX xv bS
  split
  · rw [if_neg (fun q => absurd q.2 (by decide))]; rfl
  · rfl
/-- solve's soonest -/
theorem sp_soonest0 {σ : dk_S} {r : Int32} {f : Nat → Int32} (h : (r = 1 ∧ LSb (aC σ) (uC σ) (vC σ) (gC σ) (mC σ) (bX (nC σ) (-1) 0) (xv (nC σ) f)) ∨ (r = 0 ∧ ¬ FEb (aC σ) (uC σ) (vC σ) (gC σ) (mC σ) (bX (nC σ) (-1) 0))) : (r = 1 ∧ ES (aC σ) (uC σ) (vC σ) (gC σ) (mC σ) (xv (nC σ) f)) ∨ (r = 0 ∧ ¬ FE (aC σ) (uC σ) (vC σ) (gC σ) (mC σ)) := by
  rw [bX_0] at h
  exact h
abbrev tfM (st so : Int32) : Prop := st = 0 ∧ so = 0
abbrev sp_has : dk_M := dk_sp 1 true (fun _ : Unit => [.inr 30]) (fun _ _ => True) (fun _ σ r σ' => σ' = σ ∧ r = dk_b (tfM (σ 30 20) (σ 30 19)))
set_option maxRecDepth 100000 in
theorem q_has : dk_pure (kX7_has, fX7, [], [], nX7, 1, true) sp_has := by
  refine dk_sp_pure (fun _ _ _ => rfl) (fun _ => rfl) ?_
  rintro OK _ σ _ hC
  refine hC.go (fun _ => none) 30 ?_
  exact ⟨fun h => ⟨Or.inl rfl, rfl, dk_bn (fun q => h q.1)⟩, fun h => ⟨fun h2 => ⟨Or.inl rfl, rfl, dk_bn (fun q => h2 q.2)⟩, fun h2 => ⟨Or.inr rfl, rfl, dk_bp ⟨Classical.not_not.mp h, Classical.not_not.mp h2⟩⟩⟩⟩
def frM (σ σ' : dk_S) : Prop := (∀ q, ¬ q = 30 → ¬ (37 ≤ q ∧ q ≤ 44) → σ' q = σ q) ∧ ∀ j, ¬ (j = 15 ∨ j = 17 ∨ j = 19 ∨ j = 20 ∨ j = 23 ∨ j = 24 ∨ j = 26) → σ' 30 j = σ 30 j
def MSOL0 (σ σ' : dk_S) : Prop := ES (aC σ) (uC σ) (vC σ) (gC σ) (mC σ) (xv (nC σ) (σ' 37)) ∧ (σ' 30 23).toInt = pl_len (dC σ) (toI (σ' 37)) (nC σ) ∧ σ' 30 24 = σ 30 0 ∧ GS (aC σ) (uC σ) (vC σ) (gC σ) (mC σ) (nC σ) (l0 (σ' 30 23).toInt (dC σ)) (xv (nC σ) (σ' 38)) ∧ (∀ t, t < nC σ → σ' 43 t = σ' 37 t ∧ σ' 44 t = σ' 38 t) ∧ σ' 30 15 = 0 ∧ ∃ W k, σ' 30 17 = nI k ∧ MCH σ' (σ' 30 23) k W (σ' 41)
def MSOL1 (σ σ' : dk_S) : Prop := ¬ FE (aC σ) (uC σ) (vC σ) (gC σ) (mC σ) ∧ σ' 30 17 = 0 ∧ ∃ k ε, k ≤ 31 ∧ CRCC σ k ε ∧ σ' 30 15 = nI k ∧ ∀ i, i < k → σ' 40 i = nI (eN σ (ε i))
abbrev sp_msolve : dk_M := dk_sp 1 true (fun _ : Unit => [.inr 30]) (fun _ σ => RN σ) (fun _ σ r σ' => frM σ σ' ∧ σ' 30 26 = 1 ∧ σ' 30 20 = 0 ∧ σ' 30 19 = r ∧ ((r = 0 ∧ MSOL0 σ σ') ∨ (r = 1 ∧ MSOL1 σ σ')))
theorem ES_l0 {σ : dk_S} {x : Nat → Int} (hx : ES (aC σ) (uC σ) (vC σ) (gC σ) (mC σ) x) (hn : nC σ ≤ 30) {L : Int} (hL : L = pl_len (dC σ) x (nC σ)) : ∃ z, bf_sol (aC σ) (uC σ) (vC σ) (gC σ) (mC σ) z ∧ (∀ j, Pl (nC σ) j → z j ≤ l0 L (dC σ) j) ∧ z 30 = 0 := by
  refine ⟨x, hx.1, fun j hj => ?_, hx.2.2.1⟩
  unfold l0
  rcases hj with hj | hj
  · rw [if_neg (by omega), hL]
    have := pl_len_ge (dC σ) x hj
    omega
  · rw [if_pos hj, hj, hx.2.2.1]
    exact Int.le_refl _
set_option maxRecDepth 100000 in
set_option maxHeartbeats 4000000 in
theorem q_msolve : dk_pure (kX7_solve, fX7, [(135, sp_soonest), (138, sp_findCircle), (141, sp_longest), (150, sp_latest), (153, sp_findChain)], [], nX7, 2, false) sp_msolve := by
  refine dk_sp_pure (fun _ _ _ => rfl) (fun _ => rfl) ?_
  rintro OK _ σ hR hC
  have hR0 := hR
  obtain ⟨hN, hn, hm, hdur, hcon, hoo⟩ := hR
  have hn30 := hN.n30
  obtain ⟨c1, hc1⟩ : ∃ c1, c1 = upd (upd (upd (upd (σ 30) 26 1) 20 0) 17 0) 15 0 := ⟨_, rfl⟩
  refine hC.go (fun q => if q = 78 then some 2 else none) 60 ?_
  refine ⟨Or.inr rfl, Or.inl rfl, ?_⟩
  have e1 : dk_up (dk_up (dk_up (dk_up σ 30 (upd (σ 30) 26 1)) 30 (upd (upd (σ 30) 26 1) 20 0)) 30 (upd (upd (upd (σ 30) 26 1) 20 0) 17 0)) 30 (upd (upd (upd (upd (σ 30) 26 1) 20 0) 17 0) 15 0) = dk_up σ 30 c1 := by rw [dk_up_up, dk_up_up, dk_up_up, hc1]
  show dk_call sp_soonest [.inl 0, .inl (-1), .inr 30, .inr 30] (dk_up (dk_up (dk_up (dk_up σ 30 (upd (σ 30) 26 1)) 30 (upd (upd (σ 30) 26 1) 20 0)) 30 (upd (upd (upd (σ 30) 26 1) 20 0) 17 0)) 30 (upd (upd (upd (upd (σ 30) 26 1) 20 0) 17 0) 15 0)) _
  rw [e1]
  have hRc : ∀ c : Nat → Int32, c 0 = σ 30 0 → c 1 = σ 30 1 → RN (dk_up σ 30 c) := fun c q0 q1 => ⟨hN, by show c 0 = nI (nC σ); rw [q0]; exact hn, by show c 1 = nI (mC σ); rw [q1]; exact hm, hdur, hcon, hoo⟩
  have c10 : c1 0 = σ 30 0 := by rw [hc1]; rfl
  have c11 : c1 1 = σ 30 1 := by rw [hc1]; rfl
  refine dk_cs (-1, 0) rfl rfl rfl ⟨hRc c1 c10 c11, by decide, by decide⟩ (fun r σ1 hq => ?_)
  obtain ⟨f, hσ1, hfb, hr⟩ := hq
  have hr : (r = 1 ∧ ES (aC σ) (uC σ) (vC σ) (gC σ) (mC σ) (xv (nC σ) f)) ∨ (r = 0 ∧ ¬ FE (aC σ) (uC σ) (vC σ) (gC σ) (mC σ)) := sp_soonest0 hr
  have hfb : ∀ t, t < nC σ → 0 ≤ (f t).toInt ∧ (f t).toInt ≤ 9000000 := hfb
  rw [hσ1]
  refine ⟨fun h => ?_, fun h => ?_⟩
  · have h : r = 0 := h
    have hFE : ¬ FE (aC σ) (uC σ) (vC σ) (gC σ) (mC σ) := by
      rcases hr with ⟨q, -⟩ | ⟨-, q⟩
      · rw [q] at h; exact absurd h i32_ne10
      · exact q
    refine ⟨fun q => absurd rfl q, fun _ => ?_⟩
    obtain ⟨c2, hc2⟩ : ∃ c2, c2 = upd c1 19 1 := ⟨_, rfl⟩
    have est : dk_up (dk_up (dk_up σ 30 c1) 37 f) 30 (upd c1 19 1) = dk_up (dk_up σ 30 c2) 37 f := by rw [dk_up_comm (show ¬ 37 = 30 by decide), dk_up_up, hc2]
    show dk_call sp_findCircle [.inr 30] (dk_up (dk_up (dk_up σ 30 c1) 37 f) 30 (upd c1 19 1)) _
    rw [est]
    have hR2 : RN (dk_up (dk_up σ 30 c2) 37 f) := hRc c2 (by rw [hc2]; exact c10) (by rw [hc2]; exact c11)
    refine dk_cs () rfl rfl rfl ⟨hR2, hFE⟩ (fun _ σ2 hq2 => ?_)
    obtain ⟨s, N, k, ε, hσ2, hk, hcr, hNk⟩ := hq2
    have s30 : σ2 30 = upd c2 15 (nI k) := by rw [hσ2]; rfl
    have j0 : ∀ j, ¬ (j = 15 ∨ j = 17 ∨ j = 19 ∨ j = 20 ∨ j = 23 ∨ j = 24 ∨ j = 26) → σ2 30 j = σ 30 j := fun j hj => by
      rw [s30, hc2, hc1]
      unfold upd
      rw [if_neg (by omega), if_neg (by omega), if_neg (by omega), if_neg (by omega), if_neg (by omega), if_neg (by omega)]
    refine ⟨⟨fun q h1 h2 => ?_, j0⟩, by rw [s30, hc2, hc1]; rfl, by rw [s30, hc2, hc1]; rfl, by rw [s30, hc2]; rfl, Or.inr ⟨rfl, hFE, by rw [s30, hc2, hc1]; rfl, k, ε, hk, hcr, by rw [s30]; rfl, fun i hi => ?_⟩⟩
    · rw [hσ2, dk_up_ne (by omega), dk_up_ne h1, dk_up_ne (by omega), dk_up_ne (by omega), dk_up_ne h1]
    · have : σ2 40 = N := by rw [hσ2]; rfl
      rw [this]
      exact hNk i hi
  · have h : ¬ r = 0 := h
    have hES : ES (aC σ) (uC σ) (vC σ) (gC σ) (mC σ) (xv (nC σ) f) := by
      rcases hr with ⟨-, q⟩ | ⟨q, -⟩
      · exact q
      · exact absurd q h
    refine ⟨fun _ => ?_, fun q => absurd (show ¬ (0 : Int32) = 1 from fun c => i32_ne10 c.symm) q⟩
    obtain ⟨c2, hc2⟩ : ∃ c2, c2 = upd c1 19 0 := ⟨_, rfl⟩
    have est : dk_up (dk_up (dk_up σ 30 c1) 37 f) 30 (upd c1 19 0) = dk_up (dk_up σ 30 c2) 37 f := by rw [dk_up_comm (show ¬ 37 = 30 by decide), dk_up_up, hc2]
    show dk_call sp_longest [.inr 30, .inr 30] (dk_up (dk_up (dk_up σ 30 c1) 37 f) 30 (upd c1 19 0)) _
    rw [est]
    have c20 : c2 0 = σ 30 0 := by rw [hc2]; exact c10
    have c21 : c2 1 = σ 30 1 := by rw [hc2]; exact c11
    have hR2 : RN (dk_up (dk_up σ 30 c2) 37 f) := hRc c2 c20 c21
    refine dk_cs () rfl rfl rfl ⟨hR2, hfb⟩ (fun L σ2 hq2 => ?_)
    obtain ⟨hσ2, hL⟩ := hq2
    have hL : L.toInt = pl_len (dC σ) (toI f) (nC σ) := hL
    rw [hσ2]
    obtain ⟨c3, hc3⟩ : ∃ c3, c3 = upd (upd c2 23 L) 24 (σ 30 0) := ⟨_, rfl⟩
    have hLx : L.toInt = pl_len (dC σ) (xv (nC σ) f) (nC σ) := by
      rw [hL]
      exact pl_len_congr (fun t ht => ⟨rfl, (if_pos ht).symm⟩)
    have hLb := pl_len_le (d := dC σ) (x := xv (nC σ) f) (B := 9001000) (by decide) (n := nC σ) (fun t ht => by
      have q1 := hN.d ht
      have q2 := hfb t ht
      have q3 : xv (nC σ) f t = (f t).toInt := if_pos ht
      omega)
    have hz := ES_l0 hES hn30 hLx
    have est2 : dk_up (dk_up (dk_up (dk_up σ 30 c2) 37 f) 30 (upd c2 23 L)) 30 (upd (upd c2 23 L) 24 (c2 0)) = dk_up (dk_up σ 30 c3) 37 f := by rw [dk_up_up, dk_up_comm (show ¬ 37 = 30 by decide), dk_up_up, c20, hc3]
    show dk_call sp_latest [.inl L, .inr 30] (dk_up (dk_up (dk_up (dk_up σ 30 c2) 37 f) 30 (upd c2 23 L)) 30 (upd (upd c2 23 L) 24 (c2 0))) _
    rw [est2]
    have c30 : c3 0 = σ 30 0 := by rw [hc3]; exact c20
    have c31 : c3 1 = σ 30 1 := by rw [hc3]; exact c21
    have hR3 : RN (dk_up (dk_up σ 30 c3) 37 f) := hRc c3 c30 c31
    refine dk_cs L rfl rfl rfl ⟨hR3, by omega, by omega, hz⟩ (fun _ σ3 hq3 => ?_)
    obtain ⟨l, hσ3, hGS⟩ := hq3
    have hGS : GS (aC σ) (uC σ) (vC σ) (gC σ) (mC σ) (nC σ) (l0 L.toInt (dC σ)) (xv (nC σ) l) := hGS
    rw [hσ3]
    refine ⟨by decide, ?_⟩
    obtain ⟨S, hS⟩ : ∃ S : (Nat → Int32) → (Nat → Int32) → dk_S, S = fun a b => dk_up (dk_up (dk_up (dk_up (dk_up σ 30 c3) 37 f) 38 l) 43 a) 44 b := ⟨_, rfl⟩
    have c31' : ∀ a b, S a b 30 0 = nI (nC σ) := fun a b => by rw [hS]; show c3 0 = _; rw [c30]; exact hn
    have copy : ∀ (d t : Nat) (a b : Nat → Int32), t + d = nC σ → (∀ j, j < t → a j = f j ∧ b j = l j) → OK 78 [(0, .inr 30), (1, .inl (nI t))] [] (S a b) := by
      intro d
      induction d with
      | zero =>
        intro t a b ht hab
        have ht : t = nC σ := by omega
        subst ht
        refine hC.go (fun _ => none) 60 ?_
        refine ⟨fun _ => ?_, fun h => ?_⟩
        · have hRS : RN (S a b) := by rw [hS]; exact hRc c3 c30 c31
          have hBS : sB (S a b) := by rw [hS]; exact hfb
          have e23 : S a b 30 23 = L := by rw [hS]; show c3 23 = L; rw [hc3]; rfl
          show dk_call sp_findChain [.inl (S a b 30 23), .inr 30] (S a b) _
          refine dk_cs (S a b 30 23) rfl rfl rfl ⟨hRS, hBS⟩ (fun _ σ4 hq4 => ?_)
          obtain ⟨W, C, k, hσ4, hM⟩ := hq4
          have s30 : σ4 30 = upd c3 17 (nI k) := by rw [hσ4, hS]; rfl
          have s37 : σ4 37 = f := by rw [hσ4, hS]; rfl
          have s38 : σ4 38 = l := by rw [hσ4, hS]; rfl
          have s43 : σ4 43 = a := by rw [hσ4, hS]; rfl
          have s44 : σ4 44 = b := by rw [hσ4, hS]; rfl
          have s41 : σ4 41 = C := by rw [hσ4]; rfl
          have s23 : σ4 30 23 = L := by rw [s30, hc3]; rfl
          have hM' : MCH σ4 (σ4 30 23) k W (σ4 41) := by
            rw [s23, s41]
            rw [e23] at hM
            have e : MCH σ4 = MCH (S a b) := by rw [hσ4]; rfl
            rw [e]
            exact hM
          refine ⟨⟨fun q h1 h2 => ?_, fun j hj => ?_⟩, by rw [s30, hc3, hc2, hc1]; rfl, by rw [s30, hc3, hc2, hc1]; rfl, by rw [s30, hc3, hc2]; rfl, Or.inl ⟨rfl, ?_, ?_, ?_, ?_, ?_, ?_, W, k, by rw [s30]; rfl, hM'⟩⟩
          · rw [hσ4, dk_up_ne h1, dk_up_ne (by omega), dk_up_ne (by omega), hS]
            show dk_up (dk_up (dk_up (dk_up (dk_up σ 30 c3) 37 f) 38 l) 43 a) 44 b q = σ q
            rw [dk_up_ne (by omega), dk_up_ne (by omega), dk_up_ne (by omega), dk_up_ne (by omega), dk_up_ne h1]
          · rw [s30, hc3, hc2, hc1]
            unfold upd
            rw [if_neg (by omega), if_neg (by omega), if_neg (by omega), if_neg (by omega), if_neg (by omega), if_neg (by omega), if_neg (by omega), if_neg (by omega)]
          · rw [s37]; exact hES
          · rw [s23, s37]; exact hL
          · rw [s30, hc3]; rfl
          · rw [s23, s38]; exact hGS
          · intro t ht
            rw [s43, s37, s44, s38]
            exact hab t ht
          · rw [s30, hc3, hc2, hc1]; rfl
        · exfalso
          apply h
          show S a b 30 0 ≤ nI (nC σ)
          rw [c31']
          exact Int32.le_refl _
      | succ d ih =>
        intro t a b ht hab
        have et : (nI t).toNatClampNeg = t := nI_clamp (by omega)
        have hit : vp_in (nI t) 30 := vp_in_nI (by omega) (by omega)
        refine hC.go (fun q => if q = 78 then some 2 else none) 60 ?_
        refine ⟨fun h => ?_, fun _ => ⟨30, rfl, hit, 30, rfl, hit, 30, rfl, hit, 30, rfl, hit, by decide, ?_⟩⟩
        · exfalso
          have h : S a b 30 0 ≤ nI t := h
          rw [c31', nI_leI (by omega) (by omega)] at h
          omega
        · have key := ih (t + 1) (upd a t (f t)) (upd b t (l t)) (by omega) (fun j hj => by
            unfold upd
            by_cases c : j = t
            · rw [if_pos c, if_pos c, c]; exact ⟨rfl, rfl⟩
            · rw [if_neg c, if_neg c]; exact hab j (by omega))
          have est4 : dk_up (dk_up (S a b) 43 (upd (S a b 43) (nI t).toNatClampNeg (S a b 37 (nI t).toNatClampNeg))) 44 (upd (dk_up (S a b) 43 (upd (S a b 43) (nI t).toNatClampNeg (S a b 37 (nI t).toNatClampNeg)) 44) (nI t).toNatClampNeg (dk_up (S a b) 43 (upd (S a b 43) (nI t).toNatClampNeg (S a b 37 (nI t).toNatClampNeg)) 38 (nI t).toNatClampNeg)) = S (upd a t (f t)) (upd b t (l t)) := by
            rw [et, hS]
            show dk_up (dk_up (dk_up (dk_up (dk_up (dk_up (dk_up σ 30 c3) 37 f) 38 l) 43 a) 44 b) 43 (upd a t (f t))) 44 (upd b t (l t)) = _
            rw [dk_up_comm (show ¬ 44 = 43 by decide), dk_up_up, dk_up_up]
          rw [← nI_1 t, ← est4] at key
          exact key
    have key := copy (nC σ) 0 (σ 43) (σ 44) (by omega) (fun j hj => by omega)
    have est5 : S (σ 43) (σ 44) = dk_up (dk_up (dk_up σ 30 c3) 37 f) 38 l := by
      rw [hS]
      show dk_up (dk_up (dk_up (dk_up (dk_up σ 30 c3) 37 f) 38 l) 43 (σ 43)) 44 (σ 44) = _
      have q1 : dk_up (dk_up (dk_up (dk_up σ 30 c3) 37 f) 38 l) 43 (σ 43) = dk_up (dk_up (dk_up σ 30 c3) 37 f) 38 l := dk_up_id (σ := dk_up (dk_up (dk_up σ 30 c3) 37 f) 38 l) (k := 43)
      rw [q1]
      exact dk_up_id (σ := dk_up (dk_up (dk_up σ 30 c3) 37 f) 38 l) (k := 44)
    rw [est5] at key
    exact key
