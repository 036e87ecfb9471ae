/-! the reference's edges, nextSums -/
theorem nI_mul (a b : Nat) : nI a * nI b = nI (a * b) := (Int32.ofNat_mul a b).symm
theorem nI_sub {a b : Nat} (h : b ≤ a) : nI a - nI b = nI (a - b) := by
  have e := nI_add (a - b) b
  rw [show a - b + b = a by omega] at e
  rw [← e]
  rw [Int32.add_sub_cancel]
theorem nI_div31 : ∀ i, i < 961 → nI i / 31 = nI (i / 31) ∧ nI i - nI i / 31 * 31 = nI (i % 31) := by decide +kernel
theorem nE150 {σ : dk_S} (h : NW σ) : nE σ ≤ 150 := by
  have := h.n30
  have := h.m120
  unfold nE
  omega
abbrev sp_edges : dk_M := dk_sp 1 true (fun _ : Unit => [.inr 30]) (fun _ σ => RN σ) (fun _ σ r σ' => σ' = σ ∧ r = nI (nE σ))
set_option maxRecDepth 100000 in
theorem q_edges : dk_pure (kX7_edges, fX7, [], [], nX7, 1, false) sp_edges := by
  refine dk_sp_pure (fun _ _ _ => rfl) (fun _ => rfl) ?_
  rintro OK _ σ ⟨hN, hn, hm, -⟩ hC
  refine hC.go (fun _ => none) 30 ?_
  refine ⟨rfl, ?_⟩
  show σ 30 1 + σ 30 0 = nI (nE σ)
  rw [hm, hn, nI_add]
  rfl
abbrev edgeP (x : Int32) (σ : dk_S) : Prop := RN σ ∧ ∃ k, k < nE σ ∧ x = nI k
abbrev sp_edgeFrom : dk_M := dk_sp 2 true (fun x : Int32 => [.inr 30, .inl x]) (fun x σ => edgeP x σ) (fun x σ r σ' => σ' = σ ∧ r = nI (eF σ x.toNatClampNeg))
set_option maxRecDepth 100000 in
theorem q_edgeFrom : dk_pure (kX7_edgeFrom, fX7, [], [], nX7, 2, false) sp_edgeFrom := by
  refine dk_sp_pure (fun x x' e => by cases e; rfl) (fun _ => rfl) ?_
  rintro OK x σ ⟨⟨hN, hn, hm, hdur, hcon, hoo⟩, k, hk, rfl⟩ hC
  have h150 := nE150 hN
  have hm120 := hN.m120
  have ek : (nI k).toNatClampNeg = k := nI_clamp (by omega)
  refine hC.go (fun _ => none) 30 ?_
  refine ⟨fun h => ⟨rfl, ?_⟩, fun h => ?_⟩
  · have h : σ 30 1 ≤ nI k := h
    rw [hm, nI_leI (by omega) (by omega)] at h
    rw [ek]
    unfold eF
    rw [if_neg (by omega)]
    rfl
  · have h : ¬ σ 30 1 ≤ nI k := h
    rw [hm, nI_leI (by omega) (by omega)] at h
    have hkm : k < mC σ := by omega
    have hik : vp_in (nI k) 120 := vp_in_nI (by omega) (by omega)
    have hu := hN.u hkm
    have k1 := (hcon k hkm).1
    have e1 : eF σ k = uC σ k := by unfold eF; rw [if_pos hkm]
    refine ⟨120, rfl, hik, fun h2 => ⟨120, rfl, hik, rfl, ?_⟩, fun h2 => ⟨rfl, ?_⟩⟩
    · have h2 : 0 ≤ σ 32 (nI k).toNatClampNeg := h2
      rw [ek, k1, og_lt hu.2.2] at h2
      rw [ek, k1, og_ne h2, e1]
    · have h2 : ¬ 0 ≤ σ 32 (nI k).toNatClampNeg := h2
      rw [ek, k1, og_lt hu.2.2] at h2
      rw [ek, e1, Classical.not_not.mp h2]
      rfl
abbrev sp_edgeTo : dk_M := dk_sp 2 true (fun x : Int32 => [.inr 30, .inl x]) (fun x σ => edgeP x σ) (fun x σ r σ' => σ' = σ ∧ r = nI (eT σ x.toNatClampNeg))
set_option maxRecDepth 100000 in
theorem q_edgeTo : dk_pure (kX7_edgeTo, fX7, [], [], nX7, 2, false) sp_edgeTo := by
  refine dk_sp_pure (fun x x' e => by cases e; rfl) (fun _ => rfl) ?_
  rintro OK x σ ⟨⟨hN, hn, hm, hdur, hcon, hoo⟩, k, hk, rfl⟩ hC
  have h150 := nE150 hN
  have hm120 := hN.m120
  have ek : (nI k).toNatClampNeg = k := nI_clamp (by omega)
  refine hC.go (fun _ => none) 30 ?_
  refine ⟨fun h => ?_, fun h => ⟨rfl, ?_⟩⟩
  · have h : nI k < σ 30 1 := h
    rw [hm, nI_ltI (by omega) (by omega)] at h
    have hik : vp_in (nI k) 120 := vp_in_nI (by omega) (by omega)
    have hv := hN.v h
    have k1 := (hcon k h).2.1
    have e1 : eT σ k = vC σ k := by unfold eT; rw [if_pos h]
    refine ⟨120, rfl, hik, fun h2 => ⟨120, rfl, hik, rfl, ?_⟩, fun h2 => ⟨rfl, ?_⟩⟩
    · have h2 : 0 ≤ σ 33 (nI k).toNatClampNeg := h2
      rw [ek, k1, og_lt hv.2.2] at h2
      rw [ek, k1, og_ne h2, e1]
    · have h2 : ¬ 0 ≤ σ 33 (nI k).toNatClampNeg := h2
      rw [ek, k1, og_lt hv.2.2] at h2
      rw [ek, e1, Classical.not_not.mp h2]
      rfl
  · have h : ¬ nI k < σ 30 1 := h
    rw [hm, nI_ltI (by omega) (by omega)] at h
    show nI k - σ 30 1 = _
    rw [ek, hm, nI_sub (by omega)]
    unfold eT
    rw [if_neg h]
abbrev sp_edgeGap : dk_M := dk_sp 2 true (fun x : Int32 => [.inr 30, .inl x]) (fun x σ => edgeP x σ) (fun x σ r σ' => σ' = σ ∧ r.toInt = eG σ x.toNatClampNeg)
set_option maxRecDepth 100000 in
theorem q_edgeGap : dk_pure (kX7_edgeGap, fX7, [], [], nX7, 2, false) sp_edgeGap := by
  refine dk_sp_pure (fun x x' e => by cases e; rfl) (fun _ => rfl) ?_
  rintro OK x σ ⟨⟨hN, hn, hm, hdur, hcon, hoo⟩, k, hk, rfl⟩ hC
  have h150 := nE150 hN
  have hm120 := hN.m120
  have ek : (nI k).toNatClampNeg = k := nI_clamp (by omega)
  refine hC.go (fun _ => none) 30 ?_
  refine ⟨fun h => ⟨120, rfl, ?_, rfl, ?_⟩, fun h => ⟨rfl, ?_⟩⟩
  · have h : nI k < σ 30 1 := h
    rw [hm, nI_ltI (by omega) (by omega)] at h
    exact vp_in_nI (by omega) (by omega)
  · have h : nI k < σ 30 1 := h
    rw [hm, nI_ltI (by omega) (by omega)] at h
    show (σ 34 (nI k).toNatClampNeg).toInt = _
    rw [ek, (hcon k h).2.2.1]
    unfold eG
    rw [if_pos h]
    rfl
  · have h : ¬ nI k < σ 30 1 := h
    rw [hm, nI_ltI (by omega) (by omega)] at h
    rw [ek]
    unfold eG
    rw [if_neg h]
    rfl
abbrev sp_isEdge : dk_M := dk_sp 2 true (fun x : Int32 => [.inr 30, .inl x]) (fun x σ => edgeP x σ) (fun x σ r σ' => σ' = σ ∧ r = if eA σ x.toNatClampNeg = true then 1 else 0)
set_option maxRecDepth 100000 in
theorem q_isEdge : dk_pure (kX7_isEdge, fX7, [], [], nX7, 2, true) sp_isEdge := by
  refine dk_sp_pure (fun x x' e => by cases e; rfl) (fun _ => rfl) ?_
  rintro OK x σ ⟨⟨hN, hn, hm, hdur, hcon, hoo⟩, k, hk, rfl⟩ hC
  have h150 := nE150 hN
  have hm120 := hN.m120
  have ek : (nI k).toNatClampNeg = k := nI_clamp (by omega)
  refine hC.go (fun _ => none) 30 ?_
  refine ⟨fun h => ⟨Or.inr rfl, rfl, ?_⟩, fun h => ?_⟩
  · have h : σ 30 1 ≤ nI k := h
    rw [hm, nI_leI (by omega) (by omega)] at h
    rw [ek]
    unfold eA
    rw [if_neg (show ¬ k < mC σ by omega)]
    rfl
  · have h : ¬ σ 30 1 ≤ nI k := h
    rw [hm, nI_leI (by omega) (by omega)] at h
    have hkm : k < mC σ := by omega
    have hik : vp_in (nI k) 120 := vp_in_nI (by omega) (by omega)
    have k4 := (hcon k hkm).2.2.2
    have e1 : eA σ k = aC σ k := by unfold eA; rw [if_pos hkm]
    refine ⟨120, rfl, hik, fun h2 => ⟨Or.inl rfl, rfl, ?_⟩, fun h2 => ⟨Or.inr rfl, rfl, ?_⟩⟩
    · have h2 : ¬ σ 35 (nI k).toNatClampNeg = 0 := h2
      rw [ek, k4] at h2
      rw [ek, e1, if_neg (show ¬ aC σ k = true from fun q => h2 (of_decide_eq_true q))]
      rfl
    · have h2 : ¬ ¬ σ 35 (nI k).toNatClampNeg = 0 := h2
      rw [ek, k4] at h2
      rw [ek, e1, if_pos (show aC σ k = true from decide_eq_true (Classical.not_not.mp h2))]
      rfl
/-- exact: v is what walks of j edges add up to at most, or the sign of none -/
def MN (σ : dk_S) (j p q : Nat) (v : Int) : Prop := (v = -100000000 ∧ ∀ s, ¬ wsC σ j p q s) ∨ (wsC σ j p q v ∧ ∀ s, wsC σ j p q s → s ≤ v)
theorem MN.bd {σ : dk_S} (hN : NW σ) {j p q : Nat} {v : Int} (hj : j ≤ 31) (h : MN σ j p q v) : v = -100000000 ∨ (-31000 ≤ v ∧ v ≤ 31000) := by
  rcases h with ⟨h, -⟩ | ⟨h, -⟩
  · exact Or.inl h
  · have := ws_bd (eG_bd hN) h
    omega
/-- what the edges below e say, of one step more -/
def PM (σ : dk_S) (R : Nat → Nat → Int) (e p q : Nat) (v : Int) : Prop := (∀ e', e' < e → eA σ e' = true → eF σ e' = p → R (eT σ e') q = -100000000 ∨ R (eT σ e') q + eG σ e' ≤ v) ∧ (v = -100000000 ∨ ∃ e', e' < e ∧ eA σ e' = true ∧ eF σ e' = p ∧ ¬ R (eT σ e') q = -100000000 ∧ v = R (eT σ e') q + eG σ e')
theorem PM.mn {σ : dk_S} (hN : NW σ) {R : Nat → Nat → Int} {j p q : Nat} {v : Int} (hj : j ≤ 30) (hq : q < 31) (hR : ∀ p, p < 31 → MN σ j p q (R p q)) (h : PM σ R (nE σ) p q v) : MN σ (j + 1) p q v := by
  obtain ⟨h1, h2⟩ := h
  have key : ∀ s, wsC σ (j + 1) p q s → s ≤ v ∧ ¬ v = -100000000 := by
    rintro s ⟨e, e1, e2, e3, s', e4, e5⟩
    have hb := hR (eT σ e) (eT_lt hN e1).1
    have hg := eG_bd hN e e1 e2
    rcases hb with ⟨-, q2⟩ | ⟨q1, q2⟩
    · exact absurd e4 (q2 s')
    · have q3 := q2 s' e4
      have hw := ws_bd (eG_bd hN) q1
      rcases h1 e e1 e2 e3 with q4 | q4
      · omega
      · constructor
        · omega
        · omega
  rcases h2 with h2 | ⟨e, e1, e2, e3, e4, e5⟩
  · exact Or.inl ⟨h2, fun s hs => (key s hs).2 h2⟩
  · right
    refine ⟨⟨e, e1, e2, e3, R (eT σ e) q, ?_, by omega⟩, fun s hs => (key s hs).1⟩
    rcases hR (eT σ e) (eT_lt hN e1).1 with ⟨q1, -⟩ | ⟨q1, -⟩
    · exact absurd q1 e4
    · exact q1
def ix (k p q : Nat) : Nat := 961 * k + (31 * p + q)
theorem ix_inj {k p q p' q' : Nat} (hq : q < 31) (hq' : q' < 31) (h : ix k p q = ix k p' q') : p = p' ∧ q = q' := by
  unfold ix at h
  omega
theorem ix_lt {k p q : Nat} (hp : p < 31) (hq : q < 31) : ix k p q < 961 * k + 961 := by unfold ix; omega
abbrev sp_nextSums : dk_M := dk_sp 2 false (fun x : Int32 => [.inr 30, .inl x]) (fun x σ => RN σ ∧ ∃ k, k ≤ 30 ∧ x = nI (k + 1) ∧ ∀ p q, p < 31 → q < 31 → MN σ k p q (σ 39 (ix k p q)).toInt)
  (fun x σ _ σ' => ∀ k, x = nI (k + 1) → k ≤ 30 → ∃ f, σ' = dk_up σ 39 f ∧ (∀ i, i < 961 * (k + 1) → f i = σ 39 i) ∧ ∀ p q, p < 31 → q < 31 → MN σ (k + 1) p q (f (ix (k + 1) p q)).toInt)
set_option maxRecDepth 100000 in
set_option maxHeartbeats 8000000 in
theorem q_nextSums : dk_pure (kX7_nextSums, fX7, [(99, sp_edges), (103, sp_isEdge), (107, sp_edgeFrom), (111, sp_edgeTo), (114, sp_edgeGap)], [], nX7, 8, false) sp_nextSums := by
  refine dk_sp_pure (fun x x' e => by cases e; rfl) (fun _ => rfl) ?_
  rintro OK x σ ⟨hR, k, hk, rfl, hMN⟩ hC
  have hR0 := hR
  obtain ⟨hN, hn, hm, hdur, hcon, hoo⟩ := hR
  have h150 := nE150 hN
  obtain ⟨R, hRd⟩ : ∃ R : Nat → Nat → Int, R = fun p q => (σ 39 (ix k p q)).toInt := ⟨_, rfl⟩
  have hRM : ∀ p q, p < 31 → q < 31 → MN σ k p q (R p q) := fun p q hp hq => by rw [hRd]; exact hMN p q hp hq
  have idx : ∀ a b : Nat, nI 961 * nI (k + 1) + nI 31 * nI a + nI b = nI (ix (k + 1) a b) := fun a b => by
    rw [nI_mul, nI_mul, nI_add, nI_add]
    unfold ix
    rw [Nat.add_assoc]
  have idx0 : ∀ a b : Nat, nI 961 * (nI (k + 1) - 1) + nI 31 * nI a + nI b = nI (ix k a b) := fun a b => by
    rw [nI_pred, nI_mul, nI_mul, nI_add, nI_add]
    unfold ix
    rw [Nat.add_assoc]
  have upR : ∀ f, RN (dk_up σ 39 f) := fun f => hR0
  have outer : ∀ (d e : Nat) (f : Nat → Int32), e + d = nE σ → (∀ i, i < 961 * (k + 1) → f i = σ 39 i) → (∀ p q, p < 31 → q < 31 → PM σ R e p q (f (ix (k + 1) p q)).toInt) → OK 31 [(0, .inr 30), (1, .inl (nI (k + 1))), (2, .inl (nI e))] [] (dk_up σ 39 f) := by
    intro d
    induction d with
    | zero =>
      intro e f he hold hPM
      have he : e = nE σ := by omega
      subst he
      refine hC.go (fun q => if q = 31 then some 3 else none) 60 ?_
      refine dk_cs () rfl rfl rfl (upR f) (fun r σ1 hq => ?_)
      obtain ⟨hσ1, hr⟩ := hq
      have hr : r = nI (nE σ) := hr
      rw [hσ1, hr]
      refine ⟨fun _ k' hk' hk30 => ?_, fun h => absurd (Int32.le_refl _) h⟩
      rw [nI_eq (by omega) (by omega)] at hk'
      have hk' : k = k' := by omega
      subst hk'
      exact ⟨f, rfl, hold, fun p q hp hq => (hPM p q hp hq).mn hN hk hq (fun p hp => hRM p q hp hq)⟩
    | succ d ih =>
      intro e f he hold hPM
      have heE : e < nE σ := by omega
      have ee : (nI e).toNatClampNeg = e := nI_clamp (by omega)
      have hpe : ∀ f, edgeP (nI e) (dk_up σ 39 f) := fun f => ⟨upR f, e, heE, rfl⟩
      have hF := (eF_lt hN heE).1
      have hT := (eT_lt hN heE).1
      refine hC.go (fun q => if q = 31 then some 3 else if q = 66 then some 6 else none) 60 ?_
      refine dk_cs () rfl rfl rfl (upR f) (fun r σ1 hq => ?_)
      obtain ⟨hσ1, hr⟩ := hq
      have hr : r = nI (nE σ) := hr
      rw [hσ1, hr]
      refine ⟨fun h => ?_, fun _ => ?_⟩
      · exfalso
        have h : nI (nE σ) ≤ nI e := h
        rw [nI_leI (by omega) (by omega)] at h
        omega
      refine dk_cs (nI e) rfl rfl rfl (hpe f) (fun r1 σ2 hq1 => ?_)
      obtain ⟨hσ2, hr1⟩ := hq1
      rw [hσ2]
      have hr1 : r1 = if eA σ (nI e).toNatClampNeg = true then 1 else 0 := hr1
      rw [ee] at hr1
      refine ⟨fun h => ?_, fun h => ⟨by decide, ?_⟩⟩
      · have h : ¬ r1 = 0 := h
        have hA : eA σ e = true := by
          apply Classical.byContradiction
          intro q
          rw [hr1, if_neg q] at h
          exact h rfl
        refine dk_cs (nI e) rfl rfl rfl (hpe f) (fun r3 σ3 hq3 => ?_)
        obtain ⟨hσ3, hr3⟩ := hq3
        have hr3 : r3 = nI (eF σ (nI e).toNatClampNeg) := hr3
        rw [ee] at hr3
        rw [hσ3, hr3]
        refine ⟨by decide, dk_cs (nI e) rfl rfl rfl (hpe f) (fun r4 σ4 hq4 => ?_)⟩
        obtain ⟨hσ4, hr4⟩ := hq4
        have hr4 : r4 = nI (eT σ (nI e).toNatClampNeg) := hr4
        rw [ee] at hr4
        rw [hσ4, hr4]
        refine ⟨by decide, by decide, ?_⟩
        have inner : ∀ (d x : Nat) (f : Nat → Int32), x + d = 31 → (∀ i, i < 961 * (k + 1) → f i = σ 39 i) → (∀ p q, p < 31 → q < 31 → ((¬ p = eF σ e ∨ q < x) → PM σ R (e + 1) p q (f (ix (k + 1) p q)).toInt) ∧ ((p = eF σ e ∧ ¬ q < x) → PM σ R e p q (f (ix (k + 1) p q)).toInt)) → OK 66 [(0, .inr 30), (1, .inl (nI (k + 1))), (2, .inl (nI e)), (3, .inl (nI (eF σ e))), (4, .inl (nI (eT σ e))), (5, .inl (nI x))] [] (dk_up σ 39 f) := by
          intro d'
          induction d' with
          | zero =>
            intro x f hx hold hP
            have hx : x = 31 := by omega
            subst hx
            refine hC.go (fun q => if q = 31 then some 3 else none) 60 ?_
            refine ⟨fun _ => ⟨by decide, ?_⟩, fun h => absurd (show nI 31 ≤ nI 31 by decide) h⟩
            have key := ih (e + 1) f (by omega) hold (fun p q hp hq => (hP p q hp hq).1 (Or.inr hq))
            rw [← nI_1 e] at key
            exact key
          | succ d' ihx =>
            intro x f hx hold hP
            obtain ⟨at1, hat1⟩ : ∃ at1, at1 = ix (k + 1) (eF σ e) x := ⟨_, rfl⟩
            obtain ⟨at0, hat0⟩ : ∃ at0, at0 = ix k (eT σ e) x := ⟨_, rfl⟩
            have l1 : at1 < 30752 := by have := ix_lt (k := k + 1) hF (show x < 31 by omega); omega
            have l0 : at0 < 961 * (k + 1) := by have := ix_lt (k := k) hT (show x < 31 by omega); omega
            have g1 : 961 * (k + 1) ≤ at1 := by rw [hat1]; unfold ix; omega
            have er : (f at0).toInt = R (eT σ e) x := by rw [hold at0 l0, hRd, hat0]
            have hb := (hRM (eT σ e) x hT (by omega)).bd hN (by omega)
            have hg := eG_bd hN e heE hA
            have hPa := (hP (eF σ e) x hF (by omega)).2 ⟨rfl, by omega⟩
            rw [← hat1] at hPa
            -- going on
            have skip : PM σ R (e + 1) (eF σ e) x (f at1).toInt → OK 66 [(0, .inr 30), (1, .inl (nI (k + 1))), (2, .inl (nI e)), (3, .inl (nI (eF σ e))), (4, .inl (nI (eT σ e))), (5, .inl (nI x + 1))] [] (dk_up σ 39 f) := by
              intro hp
              rw [nI_1]
              refine ihx (x + 1) f (by omega) hold (fun p q hp' hq' => ⟨fun h => ?_, fun h => (hP p q hp' hq').2 ⟨h.1, by omega⟩⟩)
              by_cases c : p = eF σ e ∧ q = x
              · rw [c.1, c.2, ← hat1]; exact hp
              · refine (hP p q hp' hq').1 ?_
                rcases h with h | h
                · exact Or.inl h
                · by_cases c2 : p = eF σ e
                  · exact Or.inr (by have : ¬ q = x := fun c3 => c ⟨c2, c3⟩
                                     omega)
                  · exact Or.inl c2
            refine hC.go (fun q => if q = 66 then some 6 else none) 60 ?_
            refine ⟨fun h => ?_, fun _ => ⟨30752, rfl, ?_, by decide, by decide, fun h => ⟨by decide, skip ?_⟩, fun h => ?_⟩⟩
            · exfalso
              have h : nI 31 ≤ nI x := h
              rw [nI_leI (by omega) (by omega)] at h
              omega
            · show vp_in (nI 961 * (nI (k + 1) - 1) + nI 31 * nI (eT σ e) + nI x) 30752
              rw [idx0, ← hat0]
              exact vp_in_nI (by omega) (by omega)
            · have h : f (nI 961 * (nI (k + 1) - 1) + nI 31 * nI (eT σ e) + nI x).toNatClampNeg ≤ -100000000 := h
              rw [idx0, ← hat0, nI_clamp (by omega), dk_le, er] at h
              have h : R (eT σ e) x ≤ -100000000 := h
              refine ⟨fun e' he' h1 h2 => ?_, ?_⟩
              · by_cases c : e' = e
                · rw [c]; left; omega
                · exact hPa.1 e' (by omega) h1 h2
              · rcases hPa.2 with q | ⟨e', q1, q2⟩
                · exact Or.inl q
                · exact Or.inr ⟨e', by omega, q2⟩
            · have h : ¬ f (nI 961 * (nI (k + 1) - 1) + nI 31 * nI (eT σ e) + nI x).toNatClampNeg ≤ -100000000 := h
              have ef0 : f (nI 961 * (nI (k + 1) - 1) + nI 31 * nI (eT σ e) + nI x).toNatClampNeg = f at0 := by rw [idx0, ← hat0, nI_clamp (by omega)]
              rw [ef0, dk_le, er] at h
              have h : ¬ R (eT σ e) x ≤ -100000000 := h
              have hne : ¬ R (eT σ e) x = -100000000 := by omega
              have at1e : nI 961 * nI (k + 1) + nI 31 * nI (eF σ e) + nI x = nI at1 := by rw [idx, ← hat1]
              refine dk_cs (nI e) rfl rfl rfl (hpe f) (fun r5 σ5 hq5 => ?_)
              obtain ⟨hσ5, hr5⟩ := hq5
              have hr5 : r5.toInt = eG σ (nI e).toNatClampNeg := hr5
              rw [ee] at hr5
              rw [hσ5]
              have hadd : (f at0 + r5).toInt = R (eT σ e) x + eG σ e := by
                rw [← er, ← hr5]
                exact dk_add (by omega) (by omega)
              have hi1 : vp_in (nI 961 * nI (k + 1) + nI 31 * nI (eF σ e) + nI x) 30752 := by rw [at1e]; exact vp_in_nI l1 (by omega)
              refine ⟨30752, rfl, hi1, fun h2 => ⟨by decide, skip ?_⟩, fun h2 => ?_⟩
              · have h2 : f (nI 961 * (nI (k + 1) - 1) + nI 31 * nI (eT σ e) + nI x).toNatClampNeg + r5 ≤ f (nI 961 * nI (k + 1) + nI 31 * nI (eF σ e) + nI x).toNatClampNeg := h2
                rw [ef0, at1e, nI_clamp (by omega), dk_le, hadd] at h2
                refine ⟨fun e' he' h1 h3 => ?_, ?_⟩
                · by_cases c : e' = e
                  · rw [c]; right; omega
                  · exact hPa.1 e' (by omega) h1 h3
                · rcases hPa.2 with q | ⟨e', q1, q2⟩
                  · exact Or.inl q
                  · exact Or.inr ⟨e', by omega, q2⟩
              · have h2 : ¬ f (nI 961 * (nI (k + 1) - 1) + nI 31 * nI (eT σ e) + nI x).toNatClampNeg + r5 ≤ f (nI 961 * nI (k + 1) + nI 31 * nI (eF σ e) + nI x).toNatClampNeg := h2
                rw [ef0, at1e, nI_clamp (by omega), dk_le, hadd] at h2
                refine dk_cs (nI e) rfl rfl rfl (hpe f) (fun r6 σ6 hq6 => ?_)
                obtain ⟨hσ6, hr6⟩ := hq6
                have hr6 : r6.toInt = eG σ (nI e).toNatClampNeg := hr6
                rw [ee] at hr6
                have e65 : r6 = r5 := by rw [dk_eq, hr5, hr6]
                rw [hσ6, e65]
                refine ⟨30752, rfl, hi1, by decide, ?_⟩
                show OK 66 [(0, .inr 30), (1, .inl (nI (k + 1))), (2, .inl (nI e)), (3, .inl (nI (eF σ e))), (4, .inl (nI (eT σ e))), (5, .inl (nI x + 1))] [] (dk_up (dk_up σ 39 f) 39 (upd f (nI 961 * nI (k + 1) + nI 31 * nI (eF σ e) + nI x).toNatClampNeg (f (nI 961 * (nI (k + 1) - 1) + nI 31 * nI (eT σ e) + nI x).toNatClampNeg + r5)))
                rw [dk_up_up, ef0, at1e, nI_clamp (show at1 < 2147483648 by omega), nI_1]
                have uo : ∀ i, ¬ i = at1 → upd f at1 (f at0 + r5) i = f i := fun i hi => by unfold upd; rw [if_neg hi]
                have ua : upd f at1 (f at0 + r5) at1 = f at0 + r5 := by unfold upd; rw [if_pos rfl]
                refine ihx (x + 1) _ (by omega) (fun i hi => by rw [uo i (by omega)]; exact hold i hi) (fun p q hp' hq' => ?_)
                by_cases c : p = eF σ e ∧ q = x
                · obtain ⟨c1, c2⟩ := c
                  subst c2
                  rw [c1, ← hat1, ua, hadd]
                  refine ⟨fun _ => ⟨fun e' he' h1 h3 => ?_, Or.inr ⟨e, by omega, hA, rfl, hne, rfl⟩⟩, fun hh => absurd (by omega) hh.2⟩
                  by_cases c : e' = e
                  · rw [c]; right; omega
                  · rcases hPa.1 e' (by omega) h1 h3 with q | q
                    · exact Or.inl q
                    · right; omega
                · have hi : ¬ ix (k + 1) p q = at1 := fun hh => by
                    rw [hat1] at hh
                    exact c (ix_inj hq' (by omega) hh)
                  rw [uo _ hi]
                  refine ⟨fun hh => (hP p q hp' hq').1 ?_, fun hh => (hP p q hp' hq').2 ⟨hh.1, by omega⟩⟩
                  rcases hh with hh | hh
                  · exact Or.inl hh
                  · by_cases c2 : p = eF σ e
                    · exact Or.inr (by have : ¬ q = x := fun c3 => c ⟨c2, c3⟩
                                       omega)
                    · exact Or.inl c2
        refine inner 31 0 f (by omega) hold (fun p q hp hq => ⟨fun hh => ?_, fun hh => hPM p q hp hq⟩)
        rcases hh with hh | hh
        · obtain ⟨a1, a2⟩ := hPM p q hp hq
          refine ⟨fun e' he' h1 h2 => ?_, ?_⟩
          · by_cases c : e' = e
            · rw [c] at h2; exact absurd h2.symm hh
            · exact a1 e' (by omega) h1 h2
          · rcases a2 with q | ⟨e', q1, q2⟩
            · exact Or.inl q
            · exact Or.inr ⟨e', by omega, q2⟩
        · omega
      · have h : ¬ ¬ r1 = 0 := h
        have hA : ¬ eA σ e = true := fun q => by
          rw [hr1, if_pos q] at h
          exact h i32_ne10
        have key := ih (e + 1) f (by omega) hold (fun p q hp hq => by
          obtain ⟨a1, a2⟩ := hPM p q hp hq
          refine ⟨fun e' he' h1 h2 => ?_, ?_⟩
          · by_cases c : e' = e
            · rw [c] at h1; exact absurd h1 hA
            · exact a1 e' (by omega) h1 h2
          · rcases a2 with q | ⟨e', q1, q2⟩
            · exact Or.inl q
            · exact Or.inr ⟨e', by omega, q2⟩)
        rw [← nI_1 e] at key
        exact key
  have first : ∀ (d i : Nat) (f : Nat → Int32), i + d = 961 → (∀ j, j < 961 * (k + 1) → f j = σ 39 j) → (∀ j, j < i → f (961 * (k + 1) + j) = -100000000) → OK 2 [(0, .inr 30), (1, .inl (nI (k + 1))), (2, .inl (nI i))] [] (dk_up σ 39 f) := by
    intro d
    induction d with
    | zero =>
      intro i f hi hold hf
      have hi : i = 961 := by omega
      subst hi
      refine hC.go (fun q => if q = 31 then some 3 else none) 60 ?_
      refine ⟨fun _ => ⟨by decide, ?_⟩, fun h => absurd (show nI 961 ≤ nI 961 by decide) h⟩
      refine outer (nE σ) 0 f (by omega) hold (fun p q hp hq => ⟨fun e' he' => by omega, Or.inl ?_⟩)
      unfold ix
      rw [hf (31 * p + q) (by omega)]
      rfl
    | succ d ih =>
      intro i f hi hold hf
      have e1 : nI 961 * nI (k + 1) + nI i = nI (961 * (k + 1) + i) := by rw [nI_mul, nI_add]
      refine hC.go (fun q => if q = 2 then some 3 else none) 60 ?_
      refine ⟨fun h => ?_, fun _ => ⟨30752, rfl, ?_, by decide, ?_⟩⟩
      · exfalso
        have h : nI 961 ≤ nI i := h
        rw [nI_leI (by omega) (by omega)] at h
        omega
      · show vp_in (nI 961 * nI (k + 1) + nI i) 30752
        rw [e1]
        exact vp_in_nI (by omega) (by omega)
      · show OK 2 [(0, .inr 30), (1, .inl (nI (k + 1))), (2, .inl (nI i + 1))] [] (dk_up (dk_up σ 39 f) 39 (upd f (nI 961 * nI (k + 1) + nI i).toNatClampNeg (-100000000)))
        rw [dk_up_up, e1, nI_clamp (by omega), nI_1]
        refine ih (i + 1) _ (by omega) (fun j hj => ?_) (fun j hj => ?_)
        · unfold upd; rw [if_neg (by omega)]; exact hold j hj
        · unfold upd
          by_cases c : j = i
          · rw [c, if_pos rfl]
          · rw [if_neg (by omega)]; exact hf j (by omega)
  refine hC.go (fun q => if q = 2 then some 3 else none) 60 ?_
  refine ⟨by decide, ?_⟩
  have key := first 961 0 (σ 39) (by omega) (fun j _ => rfl) (fun j hj => by omega)
  rw [dk_up_id] at key
  exact key
