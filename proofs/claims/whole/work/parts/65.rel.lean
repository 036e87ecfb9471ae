/-! the relation of the class and the reference -/
def R1 (σ : dk_S) : Prop := RN σ ∧ σ 30 3 = σ 1 2 ∧ ∀ c, mC σ ≤ c → c < 120 → σ 6 c = 0
def R2 (σ : dk_S) : Prop := CW σ ∧ skb (σ 8) ∧ σ 30 2 = σ 7 0 ∧ σ 30 10 = σ 7 1 ∧ (∀ t, t < nC σ → σ 36 t = σ 8 t) ∧ ∀ t, nC σ ≤ t → t < 30 → σ 8 t = 0
def KPT (σ : dk_S) : Prop := σ 0 7 = 0 → ∃ k, k ≤ nC σ ∧ σ 9 1 = nI k ∧ σ 30 24 = nI k ∧ σ 30 23 = σ 9 2 ∧ ∀ t, t < k → σ 43 t = σ 10 t ∧ σ 44 t = σ 11 t
def RCH (σ : dk_S) : Prop := ∃ k, k ≤ 30 ∧ σ 15 4 = nI k ∧ σ 30 17 = nI k ∧ ∀ i, i < k → σ 41 i = σ 16 i
def RCI (σ : dk_S) : Prop := ∃ k, k ≤ 31 ∧ σ 18 2 = nI k ∧ σ 30 15 = nI k ∧ ∀ i, i < k → σ 40 i = σ 19 i ∧ ∃ c, σ 19 i = nI c ∧ (c < mC σ ∨ 200 ≤ c ∧ c < 230)
def R3 (σ : dk_S) : Prop := σ 30 19 = σ 0 7 ∧ ((σ 0 8 = 0 ∧ σ 30 20 = 1) ∨ (σ 0 8 = 1 ∧ σ 30 20 = 0)) ∧ FRS σ ∧ KPT σ ∧ RCH σ ∧ RCI σ
def RB (σ : dk_S) : Prop := bd 4000000 (σ 10) ∧ bd 5000000 (σ 11) ∧ bd 5000000 (σ 14) ∧ bd3 1000 (σ 17)
def KM (σ : dk_S) : Prop := ¬ σ 25 0 = 0 → (σ 30 27 = σ 25 2 ∧ σ 30 28 = σ 25 3 ∧ σ 30 29 = σ 25 4 ∧ σ 30 30 = σ 25 5) ∧ (∀ i, i < 32 → bt (σ 25 3) i = true → i < nC σ) ∧ (∀ t, t < 30 → σ 26 t = -1 ∨ ∃ w, w < 16 ∧ σ 26 t = nI w ∧ bt (σ 8 t) w = true) ∧ (∀ i, i < 32 → bt (σ 25 4) i = true → i < 30) ∧ ∀ i, i < 32 → bt (σ 25 5) i = true → i < 30
def R4 (σ : dk_S) : Prop := σ 30 25 = σ 25 0 ∧ ((σ 25 1 = 0 ∧ σ 30 26 = 1) ∨ (σ 25 1 = 1 ∧ ¬ σ 25 0 = 0 ∧ σ 30 26 = 0 ∧ ∀ t, t < nC σ → σ 45 t = σ 26 t)) ∧ KM σ
def Rel (σ : dk_S) : Prop := R1 σ ∧ R2 σ ∧ R3 σ ∧ RB σ ∧ R4 σ
/-- one call of each, one after the other -/
def two (A B : dk_M) (as bs : List dk_V) : Prop := ∀ σ, Rel σ → A.2.2.1 as σ ∧ ∀ r σ', A.2.2.2 as σ r σ' → B.2.2.1 bs σ' ∧ ∀ r' σ'', B.2.2.2 bs σ' r' σ'' → r' = r ∧ Rel σ''
theorem two_sp {n n' : Nat} {b b' : Bool} {X : Type} {A A' : X → List dk_V} {P P' : X → dk_S → Prop} {Q Q' : X → dk_S → Int32 → dk_S → Prop} (x : X) (h : ∀ σ, Rel σ → P x σ ∧ ∀ r σ', Q x σ r σ' → P' x σ' ∧ ∀ r' σ'', Q' x σ' r' σ'' → r' = r ∧ Rel σ'') : two (dk_sp n b A P Q) (dk_sp n' b' A' P' Q') (A x) (A' x) :=
  fun σ hR => ⟨⟨x, rfl, (h σ hR).1⟩, fun r σ' hq => ⟨⟨x, rfl, ((h σ hR).2 r σ' (hq x rfl)).1⟩, fun r' σ'' hq' => ((h σ hR).2 r σ' (hq x rfl)).2 r' σ'' (hq' x rfl)⟩⟩
theorem RN.enM {σ : dk_S} (h : RN σ) : nM σ = nC σ := by
  have := h.1.n30
  unfold nM
  rw [h.2.1, nI_clamp (by omega)]
theorem RN.emM {σ : dk_S} (h : RN σ) : mM σ = mC σ := by
  have := h.1.m120
  unfold mM
  rw [h.2.2.1, nI_clamp (by omega)]
theorem R2.ewM {σ : dk_S} (h : R2 σ) : wM σ = wC σ := by
  unfold wM wC
  rw [h.2.2.1]
theorem Rel.BM {σ : dk_S} (h : Rel σ) : BM σ := by
  have h1 := h.1.1
  have hw := h.2.1.1.w
  refine ⟨⟨by rw [h1.enM]; exact h1.1.n30, by rw [h1.enM]; exact h1.2.1⟩, ⟨by rw [h1.emM]; exact h1.1.m120, by rw [h1.emM]; exact h1.2.2.1⟩, by rw [h.2.1.ewM]; exact hw.2, by rw [h.2.1.ewM, h.2.1.2.2.1]; exact hw.1⟩
theorem NW.full {σ : dk_S} (h : NW σ) : (∀ c, c < mC σ → pl_ok (nC σ) (σ 3 c) ∧ pl_ok (nC σ) (σ 4 c) ∧ -1000 ≤ (σ 5 c).toInt ∧ (σ 5 c).toInt ≤ 1000) ∧ (∀ c, c < 120 → σ 6 c = 0 ∨ σ 6 c = 1) ∧ (∀ t, t < nC σ → 0 ≤ (σ 2 t).toInt ∧ (σ 2 t).toInt ≤ 1000) :=
  ⟨fun c hc => ⟨⟨_, (h.u hc).1, (h.u hc).2.1⟩, ⟨_, (h.v hc).1, (h.v hc).2.1⟩, h.g hc⟩, fun c hc => h.b hc, fun t ht => h.d ht⟩
theorem pl_ok.mono {n n' : Nat} {x : Int32} (h : pl_ok n x) (hn : n ≤ n') : pl_ok n' x := by
  obtain ⟨k, h1, h2⟩ := h
  exact ⟨k, h1, by omega⟩
theorem upd_eq {f : Nat → Int32} {k : Nat} {x : Int32} : upd f k x k = x := if_pos rfl
theorem upd_ne {f : Nat → Int32} {k j : Nat} {x : Int32} (h : ¬ j = k) : upd f k x j = f j := if_neg h
set_option maxRecDepth 10000 in
set_option maxHeartbeats 1000000 in
theorem t_task (t : Int32) : two sp_xtask sp_mtask [.inr 0, .inl t] [.inr 30, .inl t] := by
  refine two_sp (A := fun t : Int32 => [.inr 0, .inl t]) (A' := fun t : Int32 => [.inr 30, .inl t]) t (fun σ hR => ⟨hR.1.1.1, fun r σ' hq => ?_⟩)
  have hBM := hR.BM
  have hnM := hR.1.1.enM
  have hN := hR.1.1.1
  have hn30 := hN.n30
  have hm120 := hN.m120
  rcases hq with ⟨hok, hr, hσ'⟩ | ⟨hno, hr, hσ'⟩
  · subst hσ'
    refine ⟨hBM, fun r' σ'' hq' => ?_⟩
    rcases hq' with ⟨hok', hr', hσ''⟩ | ⟨hno', -⟩
    · have hr' : r' = nI (nM σ) := hr'
      have hlt : nC σ < 30 := hok.1
      refine ⟨by rw [hr', hr, hnM], ?_⟩
      obtain ⟨τ, hτ⟩ : ∃ τ, τ = spoilM (dk_up (dk_up (dk_up (spoil (dk_up (dk_up σ 2 (upd (σ 2) (nC σ) t)) 1 (upd (σ 1) 0 (nI (nC σ + 1))))) 31 (upd (σ 31) (nC σ) t)) 36 (upd (σ 36) (nC σ) 0)) 30 (upd (σ 30) 0 (nI (nC σ + 1)))) := ⟨_, rfl⟩
      have hσ2 : σ'' = τ := by
        rw [hσ'', hτ]
        show spoilM (dk_up (dk_up (dk_up _ 31 (upd (σ 31) (nM σ) t)) 36 (upd (σ 36) (nM σ) 0)) 30 (upd (σ 30) 0 (nI (nM σ + 1)))) = _
        rw [hnM]
      rw [hσ2]
      obtain ⟨⟨⟨_, hn, hm, hdur, hcon, hoo⟩, h3, h6⟩, ⟨hCW, hsb, hw, hs, h36, h8⟩, ⟨h19, hfr, hFRS, hK, hch, hci⟩, hRB, h25, hfm, hKM⟩ := hR
      obtain ⟨f1, f2, f3⟩ := hN.full
      have en : nC τ = nC σ + 1 := by rw [hτ]; show (nI (nC σ + 1)).toNatClampNeg = _; exact nI_clamp (by omega)
      have em : mC τ = mC σ := by rw [hτ]; rfl
      have eu : uC τ = uC σ := by rw [hτ]; rfl
      have ev : vC τ = vC σ := by rw [hτ]; rfl
      have e2 : τ 2 = upd (σ 2) (nC σ) t := by rw [hτ]; rfl
      have e31 : τ 31 = upd (σ 31) (nC σ) t := by rw [hτ]; rfl
      have e36 : τ 36 = upd (σ 36) (nC σ) 0 := by rw [hτ]; rfl
      have e8 : τ 8 = σ 8 := by rw [hτ]; rfl
      have e3 : τ 3 = σ 3 := by rw [hτ]; rfl
      have e4 : τ 4 = σ 4 := by rw [hτ]; rfl
      have e5 : τ 5 = σ 5 := by rw [hτ]; rfl
      have e6 : τ 6 = σ 6 := by rw [hτ]; rfl
      have hNτ : NW τ := by
        refine ⟨nC σ + 1, mC σ, by omega, hm120, by rw [hτ]; rfl, by rw [hτ]; exact hN.m, fun c hc => ?_, by rw [e6]; exact f2, fun s hs => ?_⟩
        · rw [e3, e4, e5]
          obtain ⟨q1, q2, q3⟩ := f1 c hc
          exact ⟨q1.mono (by omega), q2.mono (by omega), q3⟩
        · rw [e2]
          by_cases c : s = nC σ
          · rw [c, upd_eq]; exact hok.2
          · rw [upd_ne c]; exact f3 s (by omega)
      refine ⟨⟨⟨hNτ, by rw [en, hτ]; rfl, by rw [em, hτ]; exact hm, ?_, ?_, ?_⟩, ?_, ?_⟩, ⟨?_, ?_, ?_, ?_, ?_, ?_⟩, ⟨?_, ?_, ?_, ?_, ?_, ?_⟩, ?_, ?_, ?_, ?_⟩
      · rw [en, e31, e2]
        intro s hs
        by_cases c : s = nC σ
        · rw [c, upd_eq, upd_eq]
        · rw [upd_ne c, upd_ne c]; exact hdur s (by omega)
      · rw [em, eu, ev]; rw [hτ]; exact hcon
      · rw [em, eu, ev]; exact hoo
      · rw [hτ]; exact h3
      · rw [em, e6]; exact h6
      · rw [hτ]; exact hCW
      · rw [e8]; exact hsb
      · rw [hτ]; exact hw
      · rw [hτ]; exact hs
      · rw [en, e36, e8]
        intro s hs
        by_cases c : s = nC σ
        · rw [c, upd_eq, h8 _ (Nat.le_refl _) hlt]
        · rw [upd_ne c]; exact h36 s (by omega)
      · rw [en, e8]
        exact fun s h1 h2 => h8 s (by omega) h2
      · rw [hτ]; exact h19
      · left; rw [hτ]; exact ⟨rfl, rfl⟩
      · intro q
        exact absurd (show τ 0 8 = 0 by rw [hτ]; rfl) q.1
      · intro q
        have q : σ 0 7 = 0 := by rw [hτ] at q; exact q
        obtain ⟨k, h1, h2⟩ := hK q
        exact ⟨k, by omega, by rw [hτ]; exact h2⟩
      · rw [hτ]; exact hch
      · rw [hτ]; exact hci
      · rw [hτ]; exact hRB
      · rw [hτ]; exact h25
      · left; rw [hτ]; exact ⟨rfl, rfl⟩
      · intro q
        have q : ¬ σ 25 0 = 0 := by rw [hτ] at q; exact q
        obtain ⟨k1, k2, k3⟩ := hKM q
        refine ⟨by rw [hτ]; exact k1, ?_, by rw [hτ]; exact k3⟩
        rw [en]
        intro i h1 h2
        have h2 : bt (σ 25 3) i = true := by rw [hτ] at h2; exact h2
        have := k2 i h1 h2
        omega
    · exfalso
      exact hno' ⟨by show nM σ < 30; rw [hnM]; exact hok.1, hok.2⟩
  · subst hσ'
    refine ⟨hBM, fun r' σ'' hq' => ?_⟩
    rcases hq' with ⟨hok', -⟩ | ⟨-, hr', hσ''⟩
    · exfalso
      exact hno ⟨by rw [← hnM]; exact hok'.1, hok'.2⟩
    · rw [hσ'', hr, hr']
      exact ⟨rfl, hR⟩
theorem end_facts {n : Nat} (hn : n ≤ 30) {a : Int32} (h : a = -1 ∨ ∃ k, k < n ∧ a = nI k) : pl_ok n (if a = -1 then 30 else a) ∧ a = og (if a = -1 then (30 : Int32) else a).toNatClampNeg ∧ ((if a = -1 then (30 : Int32) else a).toNatClampNeg = 30 ↔ a = -1) := by
  rcases h with rfl | ⟨k, hk, rfl⟩
  · rw [if_pos rfl]
    exact ⟨⟨30, rfl, Or.inr rfl⟩, by decide, fun _ => rfl, fun _ => by decide⟩
  · rw [if_neg (nI_m1 (by omega)), nI_clamp (by omega)]
    exact ⟨⟨k, rfl, Or.inl hk⟩, (og_ne (by omega)).symm, fun q => by omega, fun q => absurd q (nI_m1 (by omega))⟩
set_option maxRecDepth 10000 in
set_option maxHeartbeats 2000000 in
theorem t_constrain (a b g : Int32) : two sp_xconstrain sp_mconstrain [.inr 0, .inl a, .inl b, .inl g] [.inr 30, .inl a, .inl b, .inl g] := by
  refine two_sp (A := fun x : Int32 × Int32 × Int32 => [.inr 0, .inl x.1, .inl x.2.1, .inl x.2.2]) (A' := fun x : Int32 × Int32 × Int32 => [.inr 30, .inl x.1, .inl x.2.1, .inl x.2.2]) (a, b, g) (fun σ hR => ⟨hR.1.1.1, fun r σ' hq => ?_⟩)
  have hBM := hR.BM
  have hnM := hR.1.1.enM
  have hmM := hR.1.1.emM
  have hN := hR.1.1.1
  have hn30 := hN.n30
  have hm120 := hN.m120
  have iff : okcM σ a b g ↔ okc σ a b g := by
    unfold okcM
    rw [hnM, hmM]
    exact Iff.rfl
  rcases hq with ⟨hok, hr, hσ'⟩ | ⟨hno, hr, hσ'⟩
  · have hok : okc σ a b g := hok
    have hr : r = nI (mC σ) := hr
    subst hσ'
    refine ⟨hBM, fun r' σ'' hq' => ?_⟩
    rcases hq' with ⟨hok', hr', hσ''⟩ | ⟨hno', -⟩
    · have hr' : r' = nI (mM σ) := hr'
      obtain ⟨hlt, hea, heb, hab, hg⟩ := hok
      refine ⟨by rw [hr', hr, hmM], ?_⟩
      obtain ⟨A, hA⟩ : ∃ A, A = if a = -1 then (30 : Int32) else a := ⟨_, rfl⟩
      obtain ⟨B, hB⟩ : ∃ B, B = if b = -1 then (30 : Int32) else b := ⟨_, rfl⟩
      have fa := end_facts hn30 hea
      have fb := end_facts hn30 heb
      rw [← hA] at fa
      rw [← hB] at fb
      obtain ⟨τ, hτ⟩ : ∃ τ, τ = spoilM (dk_up (dk_up (dk_up (dk_up (dk_up (spoil (dk_up (dk_up (dk_up (dk_up σ 3 (upd (σ 3) (mC σ) A)) 4 (upd (σ 4) (mC σ) B)) 5 (upd (σ 5) (mC σ) g)) 1 (upd (σ 1) 1 (nI (mC σ + 1))))) 32 (upd (σ 32) (mC σ) a)) 33 (upd (σ 33) (mC σ) b)) 34 (upd (σ 34) (mC σ) g)) 35 (upd (σ 35) (mC σ) 0)) 30 (upd (σ 30) 1 (nI (mC σ + 1)))) := ⟨_, rfl⟩
      have hσ2 : σ'' = τ := by
        rw [hσ'', hτ, hA, hB]
        show spoilM (dk_up (dk_up (dk_up (dk_up (dk_up _ 32 (upd (σ 32) (mM σ) a)) 33 (upd (σ 33) (mM σ) b)) 34 (upd (σ 34) (mM σ) g)) 35 (upd (σ 35) (mM σ) 0)) 30 (upd (σ 30) 1 (nI (mM σ + 1)))) = _
        rw [hmM]
        rfl
      rw [hσ2]
      obtain ⟨⟨⟨_, hn, hm, hdur, hcon, hoo⟩, h3, h6⟩, ⟨hCW, hsb, hw, hs, h36, h8⟩, ⟨h19, hfr, hFRS, hK, hch, hci⟩, hRB, h25, hfm, hKM⟩ := hR
      obtain ⟨f1, f2, f3⟩ := hN.full
      have en : nC τ = nC σ := by rw [hτ]; rfl
      have em : mC τ = mC σ + 1 := by rw [hτ]; show (nI (mC σ + 1)).toNatClampNeg = _; exact nI_clamp (by omega)
      have e2 : τ 2 = σ 2 := by rw [hτ]; rfl
      have e3 : τ 3 = upd (σ 3) (mC σ) A := by rw [hτ]; rfl
      have e4 : τ 4 = upd (σ 4) (mC σ) B := by rw [hτ]; rfl
      have e5 : τ 5 = upd (σ 5) (mC σ) g := by rw [hτ]; rfl
      have e6 : τ 6 = σ 6 := by rw [hτ]; rfl
      have e32 : τ 32 = upd (σ 32) (mC σ) a := by rw [hτ]; rfl
      have e33 : τ 33 = upd (σ 33) (mC σ) b := by rw [hτ]; rfl
      have e34 : τ 34 = upd (σ 34) (mC σ) g := by rw [hτ]; rfl
      have e35 : τ 35 = upd (σ 35) (mC σ) 0 := by rw [hτ]; rfl
      have eu : ∀ c, uC τ c = if c = mC σ then A.toNatClampNeg else uC σ c := fun c => by
        unfold uC
        rw [e3]
        by_cases h : c = mC σ
        · rw [h, upd_eq, if_pos rfl]
        · rw [upd_ne h, if_neg h]
      have ev : ∀ c, vC τ c = if c = mC σ then B.toNatClampNeg else vC σ c := fun c => by
        unfold vC
        rw [e4]
        by_cases h : c = mC σ
        · rw [h, upd_eq, if_pos rfl]
        · rw [upd_ne h, if_neg h]
      have hNτ : NW τ := by
        refine ⟨nC σ, mC σ + 1, hn30, by omega, by rw [hτ]; exact hN.n, by rw [hτ]; rfl, fun c hc => ?_, by rw [e6]; exact f2, by rw [e2]; exact f3⟩
        rw [e3, e4, e5]
        by_cases h : c = mC σ
        · rw [h, upd_eq, upd_eq, upd_eq]
          exact ⟨fa.1, fb.1, hg⟩
        · rw [upd_ne h, upd_ne h, upd_ne h]
          exact f1 c (by omega)
      refine ⟨⟨⟨hNτ, by rw [en, hτ]; exact hn, by rw [em, hτ]; rfl, ?_, ?_, ?_⟩, ?_, ?_⟩, ⟨?_, ?_, ?_, ?_, ?_, ?_⟩, ⟨?_, ?_, ?_, ?_, ?_, ?_⟩, ?_, ?_, ?_, ?_⟩
      · rw [en, e2, hτ]; exact hdur
      · rw [em]
        intro c hc
        rw [eu, ev, e32, e33, e34, e35, e5, e6]
        by_cases h : c = mC σ
        · rw [if_pos h, if_pos h, h, upd_eq, upd_eq, upd_eq, upd_eq, upd_eq, h6 _ (Nat.le_refl _) hlt]
          exact ⟨fa.2.1, fb.2.1, rfl, rfl⟩
        · rw [if_neg h, if_neg h, upd_ne h, upd_ne h, upd_ne h, upd_ne h, upd_ne h]
          exact hcon c (by omega)
      · rw [em]
        intro c hc
        rw [eu, ev]
        by_cases h : c = mC σ
        · rw [if_pos h, if_pos h, fa.2.2, fb.2.2]
          exact hab
        · rw [if_neg h, if_neg h]
          exact hoo c (by omega)
      · rw [hτ]; exact h3
      · rw [em, e6]; exact fun c h1 h2 => h6 c (by omega) h2
      · rw [hτ]; exact hCW
      · rw [hτ]; exact hsb
      · rw [hτ]; exact hw
      · rw [hτ]; exact hs
      · rw [en, hτ]; exact h36
      · rw [en, hτ]; exact h8
      · rw [hτ]; exact h19
      · left; rw [hτ]; exact ⟨rfl, rfl⟩
      · intro q
        exact absurd (show τ 0 8 = 0 by rw [hτ]; rfl) q.1
      · rw [hτ]; exact hK
      · rw [hτ]; exact hch
      · obtain ⟨k, k1, k2, k3, k4⟩ := hci
        refine ⟨k, k1, by rw [hτ]; exact k2, by rw [hτ]; exact k3, fun i hi => ?_⟩
        obtain ⟨q1, c, q2, q3⟩ := k4 i hi
        refine ⟨by rw [hτ]; exact q1, c, by rw [hτ]; exact q2, ?_⟩
        rw [em]
        omega
      · rw [hτ]; exact hRB
      · rw [hτ]; exact h25
      · left; rw [hτ]; exact ⟨rfl, rfl⟩
      · rw [hτ]; exact hKM
    · exfalso
      exact hno' (iff.mpr hok)
  · have hno : ¬ okc σ a b g := hno
    subst hσ'
    refine ⟨hBM, fun r' σ'' hq' => ?_⟩
    rcases hq' with ⟨hok', -⟩ | ⟨-, hr', hσ''⟩
    · exfalso
      exact hno (iff.mp hok')
    · rw [hσ'', hr, hr']
      exact ⟨rfl, hR⟩
set_option maxRecDepth 10000 in
set_option maxHeartbeats 2000000 in
theorem t_drop (t : Int32) : two sp_xdrop sp_mdrop [.inr 0, .inl t] [.inr 30, .inl t] := by
  refine two_sp (A := fun t : Int32 => [.inr 0, .inl t]) (A' := fun t : Int32 => [.inr 30, .inl t]) t (fun σ hR => ⟨hR.1.1.1, fun r σ' hq => ?_⟩)
  have hBM := hR.BM
  have hmM := hR.1.1.emM
  have hN := hR.1.1.1
  have hn30 := hN.n30
  have hm120 := hN.m120
  have hcon0 := hR.1.1.2.2.2.2.1
  have iff : ∀ k, okdM σ t k ↔ okd σ t k := fun k => by
    unfold okdM okd
    rw [hmM]
    constructor
    · rintro ⟨h1, h2, h3⟩
      exact ⟨h1, h2, by rw [← (hcon0 k h1).2.2.2]; exact h3⟩
    · rintro ⟨h1, h2, h3⟩
      exact ⟨h1, h2, by rw [(hcon0 k h1).2.2.2]; exact h3⟩
  rcases hq with ⟨k, hok, hr, hσ'⟩ | ⟨hno, hr, hσ'⟩
  · have hok : okd σ t k := hok
    subst hσ'
    refine ⟨hBM, fun r' σ'' hq' => ?_⟩
    rcases hq' with ⟨k', hok', hr', hσ''⟩ | ⟨hno', -⟩
    · refine ⟨by rw [hr', hr], ?_⟩
      have hok' : okdM σ t k' := hok'
      have hk : k' = k := by
        have h1 := ((iff k').mp hok')
        have := h1.2.1.symm.trans hok.2.1
        rw [nI_eq (by have := h1.1; omega) (by have := hok.1; omega)] at this
        exact this
      obtain ⟨τ, hτ⟩ : ∃ τ, τ = spoilM (dk_up (dk_up (spoil (dk_up (dk_up σ 6 (upd (σ 6) k 1)) 1 (upd (σ 1) 2 (σ 1 2 + 1)))) 35 (upd (σ 35) k 1)) 30 (upd (σ 30) 3 (σ 30 3 + 1))) := ⟨_, rfl⟩
      have hσ2 : σ'' = τ := by
        rw [hσ'', hτ, hk]
        rfl
      rw [hσ2]
      obtain ⟨⟨⟨_, hn, hm, hdur, hcon, hoo⟩, h3, h6⟩, ⟨hCW, hsb, hw, hs, h36, h8⟩, ⟨h19, hfr, hFRS, hK, hch, hci⟩, hRB, h25, hfm, hKM⟩ := hR
      obtain ⟨f1, f2, f3⟩ := hN.full
      have en : nC τ = nC σ := by rw [hτ]; rfl
      have em : mC τ = mC σ := by rw [hτ]; rfl
      have e6 : τ 6 = upd (σ 6) k 1 := by rw [hτ]; rfl
      have e35 : τ 35 = upd (σ 35) k 1 := by rw [hτ]; rfl
      have eu : uC τ = uC σ := by rw [hτ]; rfl
      have ev : vC τ = vC σ := by rw [hτ]; rfl
      have hNτ : NW τ := by
        refine ⟨nC σ, mC σ, hn30, hm120, by rw [hτ]; exact hN.n, by rw [hτ]; exact hN.m, by rw [hτ]; exact f1, fun c hc => ?_, by rw [hτ]; exact f3⟩
        rw [e6]
        by_cases h : c = k
        · rw [h, upd_eq]; exact Or.inr rfl
        · rw [upd_ne h]; exact f2 c hc
      refine ⟨⟨⟨hNτ, by rw [en, hτ]; exact hn, by rw [em, hτ]; exact hm, ?_, ?_, ?_⟩, ?_, ?_⟩, ⟨?_, ?_, ?_, ?_, ?_, ?_⟩, ⟨?_, ?_, ?_, ?_, ?_, ?_⟩, ?_, ?_, ?_, ?_⟩
      · rw [hτ]; exact hdur
      · rw [em, eu, ev, e6, e35]
        intro c hc
        obtain ⟨q1, q2, q3, q4⟩ := hcon c hc
        refine ⟨by rw [hτ]; exact q1, by rw [hτ]; exact q2, by rw [hτ]; exact q3, ?_⟩
        by_cases h : c = k
        · rw [h, upd_eq, upd_eq]
        · rw [upd_ne h, upd_ne h]; exact q4
      · rw [em, eu, ev]; exact hoo
      · have : σ 30 3 + 1 = σ 1 2 + 1 := by rw [h3]
        rw [hτ]; exact this
      · rw [em, e6]
        intro c h1 h2
        rw [upd_ne (by have := hok.1; omega)]
        exact h6 c h1 h2
      · rw [hτ]; exact hCW
      · rw [hτ]; exact hsb
      · rw [hτ]; exact hw
      · rw [hτ]; exact hs
      · rw [en, hτ]; exact h36
      · rw [en, hτ]; exact h8
      · rw [hτ]; exact h19
      · left; rw [hτ]; exact ⟨rfl, rfl⟩
      · intro q
        exact absurd (show τ 0 8 = 0 by rw [hτ]; rfl) q.1
      · rw [hτ]; exact hK
      · rw [hτ]; exact hch
      · rw [hτ]; exact hci
      · rw [hτ]; exact hRB
      · rw [hτ]; exact h25
      · left; rw [hτ]; exact ⟨rfl, rfl⟩
      · rw [hτ]; exact hKM
    · exfalso
      exact hno' k ((iff k).mpr hok)
  · have hno : ∀ k, ¬ okd σ t k := hno
    subst hσ'
    refine ⟨hBM, fun r' σ'' hq' => ?_⟩
    rcases hq' with ⟨k', hok', -⟩ | ⟨-, hr', hσ''⟩
    · exfalso
      exact hno k' ((iff k').mp hok')
    · rw [hσ'', hr, hr']
      exact ⟨rfl, hR⟩
set_option maxRecDepth 10000 in
set_option maxHeartbeats 2000000 in
theorem t_worker : two sp_xworker sp_mworker [.inr 0] [.inr 30] := by
  refine two_sp (A := fun _ : Unit => [.inr 0]) (A' := fun _ : Unit => [.inr 30]) () (fun σ hR => ⟨hR.2.1.1, fun r σ' hq => ?_⟩)
  have hBM := hR.BM
  have hwM := hR.2.1.ewM
  have hcw := hR.2.1.1.w
  rcases hq with ⟨hok, hr, hσ'⟩ | ⟨hno, hr, hσ'⟩
  · have hok : wC σ < 16 := hok
    have hr : r = nI (wC σ) := hr
    subst hσ'
    refine ⟨hBM, fun r' σ'' hq' => ?_⟩
    rcases hq' with ⟨hok', hr', hσ''⟩ | ⟨hno', -⟩
    · have hr' : r' = nI (wM σ) := hr'
      refine ⟨by rw [hr', hr, hwM], ?_⟩
      obtain ⟨τ, hτ⟩ : ∃ τ, τ = dk_up (dk_up (dk_up σ 7 (upd (σ 7) 0 (nI (wC σ + 1)))) 25 (upd (σ 25) 1 0)) 30 (upd (upd (σ 30) 2 (nI (wC σ + 1))) 26 1) := ⟨_, rfl⟩
      have hσ2 : σ'' = τ := by
        rw [hσ'', hτ]
        show dk_up _ 30 (upd (upd (σ 30) 2 (nI (wM σ + 1))) 26 1) = _
        rw [hwM]
      rw [hσ2]
      obtain ⟨⟨⟨_, hn, hm, hdur, hcon, hoo⟩, h3, h6⟩, ⟨hCW, hsb, hw, hs, h36, h8⟩, ⟨h19, hfr, hFRS, hK, hch, hci⟩, hRB, h25, hfm, hKM⟩ := hR
      refine ⟨⟨⟨by rw [hτ]; assumption, by rw [hτ]; exact hn, by rw [hτ]; exact hm, ?_, ?_, ?_⟩, ?_, ?_⟩, ⟨?_, ?_, ?_, ?_, ?_, ?_⟩, ⟨?_, ?_, ?_, ?_, ?_, ?_⟩, ?_, ?_, ?_, ?_⟩
      · rw [hτ]; exact hdur
      · rw [hτ]; exact hcon
      · rw [hτ]; exact hoo
      · rw [hτ]; exact h3
      · rw [hτ]; exact h6
      · exact ⟨wC σ + 1, by omega, by rw [hτ]; rfl⟩
      · rw [hτ]; exact hsb
      · rw [hτ]; rfl
      · rw [hτ]; exact hs
      · rw [hτ]; exact h36
      · rw [hτ]; exact h8
      · rw [hτ]; exact h19
      · rw [hτ]; exact hfr
      · rw [hτ]; exact hFRS
      · rw [hτ]; exact hK
      · rw [hτ]; exact hch
      · rw [hτ]; exact hci
      · rw [hτ]; exact hRB
      · rw [hτ]; exact h25
      · left; rw [hτ]; exact ⟨rfl, rfl⟩
      · rw [hτ]; exact hKM
    · exfalso
      have hno' : wM σ = 16 := hno'
      omega
  · have hno : wC σ = 16 := hno
    subst hσ'
    refine ⟨hBM, fun r' σ'' hq' => ?_⟩
    rcases hq' with ⟨hok', -⟩ | ⟨-, hr', hσ''⟩
    · exfalso
      have hok' : wM σ' < 16 := hok'
      omega
    · rw [hσ'', hr, hr']
      exact ⟨rfl, hR⟩
set_option maxRecDepth 10000 in
set_option maxHeartbeats 2000000 in
theorem t_skill (t w : Int32) : two sp_xskill sp_mskill [.inr 0, .inl t, .inl w] [.inr 30, .inl t, .inl w] := by
  refine two_sp (A := fun x : Int32 × Int32 => [.inr 0, .inl x.1, .inl x.2]) (A' := fun x : Int32 × Int32 => [.inr 30, .inl x.1, .inl x.2]) (t, w) (fun σ hR => ⟨⟨hR.1.1.1, hR.2.1.1⟩, fun r σ' hq => ?_⟩)
  have hBM := hR.BM
  have hwM := hR.2.1.ewM
  have hnM := hR.1.1.enM
  have hcw := hR.2.1.1.w
  have hn30 := hR.1.1.1.n30
  have h36' := hR.2.1.2.2.2.2.1
  have iff : ∀ k j, okskM σ t w k j ↔ oksk σ t w k j := fun k j => by
    unfold okskM oksk
    rw [hwM, hnM]
    constructor
    · rintro ⟨h1, h2, h3, h4, h5⟩
      exact ⟨h1, h2, h3, h4, by rw [← h36' k h1]; exact h5⟩
    · rintro ⟨h1, h2, h3, h4, h5⟩
      exact ⟨h1, h2, h3, h4, by rw [h36' k h1]; exact h5⟩
  rcases hq with ⟨k, j, hok, hr, hσ'⟩ | ⟨hno, hr, hσ'⟩
  · have hok : oksk σ t w k j := hok
    subst hσ'
    refine ⟨hBM, fun r' σ'' hq' => ?_⟩
    rcases hq' with ⟨k', j', hok', hr', hσ''⟩ | ⟨hno', -⟩
    · refine ⟨by rw [hr', hr], ?_⟩
      have hok' : okskM σ t w k' j' := hok'
      have o1 := (iff k' j').mp hok'
      obtain ⟨o2, o3, o4, o5, o6⟩ := hok
      have hk : k' = k := by
        have := o1.2.1.symm.trans o3
        rw [nI_eq (by have := o1.1; omega) (by omega)] at this
        exact this
      have hj : j' = j := by
        have := o1.2.2.2.1.symm.trans o5
        rw [nI_eq (by have := o1.2.2.1; omega) (by omega)] at this
        exact this
      obtain ⟨z, hz⟩ : ∃ z, z = (1 : Int32) <<< (nI j &&& 31) := ⟨_, rfl⟩
      obtain ⟨τ, hτ⟩ : ∃ τ, τ = dk_up (dk_up (dk_up (dk_up (dk_up σ 8 (upd (σ 8) k (σ 8 k ||| z))) 7 (upd (σ 7) 1 (σ 7 1 + 1))) 25 (upd (σ 25) 1 0)) 36 (upd (σ 36) k (σ 36 k ||| z))) 30 (upd (upd (σ 30) 10 (σ 30 10 + 1)) 26 1) := ⟨_, rfl⟩
      have hσ2 : σ'' = τ := by
        rw [hσ'', hτ, hk, hj, hz]
        rfl
      rw [hσ2]
      obtain ⟨⟨⟨_, hn, hm, hdur, hcon, hoo⟩, h3, h6⟩, ⟨hCW, hsb, hw, hs, h36, h8⟩, ⟨h19, hfr, hFRS, hK, hch, hci⟩, hRB, h25, hfm, hKM⟩ := hR
      have e8 : τ 8 = upd (σ 8) k (σ 8 k ||| z) := by rw [hτ]; rfl
      have e36 : τ 36 = upd (σ 36) k (σ 36 k ||| z) := by rw [hτ]; rfl
      have en : nC τ = nC σ := by rw [hτ]; rfl
      refine ⟨⟨⟨by rw [hτ]; assumption, by rw [hτ]; exact hn, by rw [hτ]; exact hm, ?_, ?_, ?_⟩, ?_, ?_⟩, ⟨?_, ?_, ?_, ?_, ?_, ?_⟩, ⟨?_, ?_, ?_, ?_, ?_, ?_⟩, ?_, ?_, ?_, ?_⟩
      · rw [hτ]; exact hdur
      · rw [hτ]; exact hcon
      · rw [hτ]; exact hoo
      · rw [hτ]; exact h3
      · rw [hτ]; exact h6
      · rw [hτ]; exact hCW
      · rw [e8]
        intro s hs i hi hb
        by_cases h : s = k
        · rw [h, upd_eq, b_or, hz, b_bit (by omega) hi] at hb
          by_cases h' : i = j
          · omega
          · simp [h'] at hb
            exact hsb k (by omega) i hi hb
        · rw [upd_ne h] at hb
          exact hsb s hs i hi hb
      · rw [hτ]; exact hw
      · have : σ 30 10 + 1 = σ 7 1 + 1 := by rw [hs]
        rw [hτ]; exact this
      · rw [en, e8, e36]
        intro s hs'
        by_cases h : s = k
        · rw [h, upd_eq, upd_eq, h36 k o2]
        · rw [upd_ne h, upd_ne h]; exact h36 s hs'
      · rw [en, e8]
        intro s h1 h2
        rw [upd_ne (by omega)]
        exact h8 s h1 h2
      · rw [hτ]; exact h19
      · rw [hτ]; exact hfr
      · rw [hτ]; exact hFRS
      · rw [hτ]; exact hK
      · rw [hτ]; exact hch
      · rw [hτ]; exact hci
      · rw [hτ]; exact hRB
      · rw [hτ]; exact h25
      · left; rw [hτ]; exact ⟨rfl, rfl⟩
      · intro q
        have q : ¬ σ 25 0 = 0 := by rw [hτ] at q; exact q
        obtain ⟨k1, k2, k3, k4, k5⟩ := hKM q
        refine ⟨by rw [hτ]; exact k1, by rw [hτ]; exact k2, ?_, by rw [hτ]; exact k4, by rw [hτ]; exact k5⟩
        rw [e8]
        intro s hs'
        have e26 : τ 26 = σ 26 := by rw [hτ]; rfl
        rw [e26]
        rcases k3 s hs' with q | ⟨v, q1, q2, q3⟩
        · exact Or.inl q
        · refine Or.inr ⟨v, q1, q2, ?_⟩
          by_cases h : s = k
          · rw [h, upd_eq, b_or, ← h, q3]; rfl
          · rw [upd_ne h]; exact q3
    · exfalso
      exact hno' k j ((iff k j).mpr hok)
  · have hno : ∀ k j, ¬ oksk σ t w k j := hno
    subst hσ'
    refine ⟨hBM, fun r' σ'' hq' => ?_⟩
    rcases hq' with ⟨k', j', hok', -⟩ | ⟨-, hr', hσ''⟩
    · exfalso
      exact hno k' j' ((iff k' j').mp hok')
    · rw [hσ'', hr, hr']
      exact ⟨rfl, hR⟩
