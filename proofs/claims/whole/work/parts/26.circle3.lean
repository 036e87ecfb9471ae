/-! findGoal, trace, Circle.find, stands -/
theorem cn_act {p : Nat → Bool} {e e' : Nat} (h : e < e') (hp : p e = true) : cn p e < cn p e' := by
  have h1 : cn p (e + 1) = cn p e + 1 := by simp only [cn]; rw [if_pos hp]
  have h2 : ∀ d, cn p (e + 1) ≤ cn p (e + 1 + d) := by
    intro d
    induction d with
    | zero => exact Nat.le_refl _
    | succ d ih => show _ ≤ cn p (e + 1 + d) + _; omega
  have := h2 (e' - (e + 1))
  rw [show e + 1 + (e' - (e + 1)) = e' by omega] at this
  omega
/-- an edge that begins a closed walk of k edges above 0 -/
def gk (ne : Nat) (A : Nat → Bool) (F T : Nat → Nat) (G : Nat → Int) (k e : Nat) : Prop := e < ne ∧ A e = true ∧ ∃ s, ws ne A F T G (k - 1) (T e) (F e) s ∧ 0 < G e + s
abbrev gkC (σ : dk_S) := gk (nE σ) (eA σ) (eF σ) (eT σ) (eG σ)
theorem PC_gk {ne : Nat} {A : Nat → Bool} {F T : Nat → Nat} {G : Nat → Int} {k p : Nat} (hk : 1 ≤ k) : PC ne A F T G k p ↔ ∃ e, gk ne A F T G k e ∧ F e = p := by
  obtain ⟨j, rfl⟩ : ∃ j, k = j + 1 := ⟨k - 1, by omega⟩
  unfold PC gk
  simp only [ws, Nat.add_sub_cancel]
  constructor
  · rintro ⟨s, hs, e, h1, h2, h3, s', h4, h5⟩
    subst h3
    exact ⟨e, ⟨h1, h2, s', h4, by omega⟩, rfl⟩
  · rintro ⟨e, ⟨h1, h2, s', h4, h5⟩, h3⟩
    subst h3
    exact ⟨G e + s', h5, e, h1, h2, rfl, s', h4, rfl⟩
/-- the fewest edges of a closed walk above 0 are k -/
def kmin (ne : Nat) (A : Nat → Bool) (F T : Nat → Nat) (G : Nat → Int) (k : Nat) : Prop := 1 ≤ k ∧ (∃ e, gk ne A F T G k e) ∧ ∀ j, 1 ≤ j → j < k → ∀ e, ¬ gk ne A F T G j e
abbrev kminC (σ : dk_S) := kmin (nE σ) (eA σ) (eF σ) (eT σ) (eG σ)
def plI (n i : Nat) : Nat := if i < n then i else 30
/-- the circle's cell and the rows alone -/
def SG (σ : dk_S) (G F : Int32) (R : Nat → Nat → Int32) : dk_S := dk_rows (dk_up σ 18 (upd (upd (σ 18) 8 G) 9 F)) R
theorem SG_EV {σ : dk_S} {G F : Int32} {R : Nat → Nat → Int32} (h : EV σ) : EV (SG σ G F R) := h
theorem SG_rows {σ : dk_S} {G F : Int32} {R R' : Nat → Nat → Int32} : dk_rows (SG σ G F R) R' = SG σ G F R' := by
  funext q; unfold SG dk_rows; split <;> rfl
theorem SG_18 {σ : dk_S} {G F G' F' : Int32} {R : Nat → Nat → Int32} : dk_up (dk_up (SG σ G F R) 18 (upd (SG σ G F R 18) 8 G')) 18 (upd (upd (SG σ G F R 18) 8 G') 9 F') = SG σ G' F' R := by
  rw [dk_up_up]
  funext q
  unfold SG dk_rows
  by_cases h : q = 18
  · subst h
    rw [dk_up_self]
    show upd (upd (upd (upd (σ 18) 8 G) 9 F) 8 G') 9 F' = _
    rw [if_neg (by omega), dk_up_self]
    funext j
    unfold upd
    by_cases e : j = 9
    · rw [if_pos e, if_pos e]
    · rw [if_neg e, if_neg e, if_neg e]
      by_cases e2 : j = 8
      · rw [if_pos e2, if_pos e2]
      · rw [if_neg e2, if_neg e2, if_neg e2]
  · rw [dk_up_ne h]
    by_cases h2 : 49 ≤ q ∧ q < 81
    · rw [if_pos h2, if_pos h2]
    · rw [if_neg h2, if_neg h2, dk_up_ne h, dk_up_ne h]
abbrev sp_findGoal : dk_M := dk_sp 2 false (fun L : Int32 => [.inr 18, .inl L]) (fun L σ => NW σ ∧ EV σ ∧ ∃ l, 1 ≤ l ∧ l ≤ 31 ∧ L = nI l)
  (fun L σ _ σ' => ∃ R G F, σ' = SG σ G F R ∧ ((G = σ 18 8 ∧ ∀ j, 1 ≤ j → j ≤ L.toNatClampNeg → ∀ e, ¬ gkC σ j e) ∨ ∃ k e, k ≤ L.toNatClampNeg ∧ kminC σ k ∧ isL (gkC σ k) e ∧ G = nI (eF σ e) ∧ F = nI k))
set_option maxRecDepth 100000 in
set_option maxHeartbeats 4000000 in
theorem q_findGoal : dk_pure (kX1_findGoal, fX1, [(65, sp_circleMeasure), (77, sp_leastEdge)], [], nX1, 7, false) sp_findGoal := by
  refine dk_sp_pure (fun x x' e => by cases e; rfl) (fun _ => rfl) ?_
  rintro OK xl σ ⟨hN, hEV, L, hL1, hL2, rfl⟩ hC
  have hn := hN.n30
  have hm := hN.m120
  have eL : (nI L).toNatClampNeg = L := nI_clamp (by omega)
  have hGb := eG_bd hN
  have hcE : cn (eA σ) (nE σ) ≤ 150 := by have := cn_le (eA σ) (nE σ); unfold nE at this ⊢; omega
  have h183 : σ 18 3 = nI (cn (eA σ) (nE σ)) := by
    obtain ⟨k, φ, hk, h1, h2, h3, h4, h5, h6⟩ := hEV
    rw [hk, h5]
  have hplt : ∀ i, plI (nC σ) i < 31 := fun i => by unfold plI; split <;> omega
  have hsurj : ∀ e, e < nE σ → ∃ i, i ≤ nC σ ∧ plI (nC σ) i = eF σ e := fun e he => by
    rcases (eF_lt hN he).2 with h | h
    · exact ⟨eF σ e, by omega, by unfold plI; rw [if_pos h]⟩
    · exact ⟨nC σ, Nat.le_refl _, by unfold plI; rw [if_neg (by omega), h]⟩
  have loop : ∀ (d i : Nat) (x2 G F : Int32) (R : Nat → Nat → Int32), i + d = nC σ + 1 →
      ((x2 = nI (cn (eA σ) (nE σ)) ∧ F = nI L ∧ G = σ 18 8 ∧ ∀ i', i' < i → ∀ j, 1 ≤ j → j ≤ L → ¬ PCC σ j (plI (nC σ) i')) ∨
       ∃ k e, 1 ≤ k ∧ k ≤ L ∧ F = nI k ∧ x2 = nI (cn (eA σ) e) ∧ G = nI (eF σ e) ∧ gkC σ k e ∧ (∃ i', i' < i ∧ plI (nC σ) i' = eF σ e) ∧ (∀ i', i' < i → ∀ j, 1 ≤ j → j < k → ¬ PCC σ j (plI (nC σ) i')) ∧ ∀ e', e' < e → (∃ i', i' < i ∧ plI (nC σ) i' = eF σ e') → ¬ gkC σ k e') →
      OK 12 [(0, .inr 18), (1, .inl (nI L)), (2, .inl x2), (3, .inl (nI i))] [] (SG σ G F R) := by
    intro d
    induction d with
    | zero =>
      intro i x2 G F R hi hI
      have hall : ∀ e, e < nE σ → ∃ i', i' < i ∧ plI (nC σ) i' = eF σ e := fun e he => by
        obtain ⟨a, b, c⟩ := hsurj e he
        exact ⟨a, by omega, c⟩
      refine hC.go (fun q => if q = 12 then some 4 else none) 60 ?_
      refine ⟨fun _ => ⟨R, G, F, rfl, ?_⟩, fun h => ?_⟩
      · show (G = σ 18 8 ∧ ∀ j, 1 ≤ j → j ≤ (nI L).toNatClampNeg → ∀ e, ¬ gkC σ j e) ∨ ∃ k e, k ≤ (nI L).toNatClampNeg ∧ kminC σ k ∧ isL (gkC σ k) e ∧ G = nI (eF σ e) ∧ F = nI k
        rw [eL]
        rcases hI with ⟨-, -, h3, h4⟩ | ⟨k, e, h1, h2, h3, h4, h5, h6, h7, h8, h9⟩
        · left
          refine ⟨h3, fun j hj1 hj2 e hge => ?_⟩
          obtain ⟨i', a, b⟩ := hall e hge.1
          exact h4 i' a j hj1 hj2 ((PC_gk hj1).mpr ⟨e, hge, b.symm⟩)
        · right
          refine ⟨k, e, h2, ⟨h1, ⟨e, h6⟩, fun j hj1 hj2 e' hge => ?_⟩, ⟨h6, fun e' he' hge => ?_⟩, h5, h3⟩
          · obtain ⟨i', a, b⟩ := hall e' hge.1
            exact h8 i' a j hj1 hj2 ((PC_gk hj1).mpr ⟨e', hge, b.symm⟩)
          · exact h9 e' he' (hall e' hge.1) hge
      · exfalso
        apply h
        show σ 1 0 < nI i
        rw [hN.n]
        exact nI_lt (by omega) (by omega)
    | succ d ih =>
      intro i x2 G F R hi hI
      obtain ⟨K, hK1, hK2, hKF⟩ : ∃ K, 1 ≤ K ∧ K ≤ L ∧ F = nI K := by
        rcases hI with ⟨-, h2, -⟩ | ⟨k, e, h1, h2, h3, -⟩
        · exact ⟨L, hL1, Nat.le_refl _, h2⟩
        · exact ⟨k, h1, h2, h3⟩
      have hp31 := hplt i
      obtain ⟨p, hp⟩ : ∃ p, p = plI (nC σ) i := ⟨_, rfl⟩
      rw [← hp] at hp31
      have ep : (nI p).toNatClampNeg = p := nI_clamp (by omega)
      have eK : (nI K).toNatClampNeg = K := nI_clamp (by omega)
      have keep : (∀ j, 1 ≤ j → j ≤ K → ¬ PCC σ j p) ∨ (∃ k e s, k = K ∧ F = nI k ∧ x2 = nI (cn (eA σ) e) ∧ e < nE σ ∧ eA σ e = true ∧ (∀ j, 1 ≤ j → j < K → ¬ PCC σ j p) ∧ (∀ e', gkC σ K e' → eF σ e' = p → s ≤ e') ∧ e ≤ s) → ∀ R', OK 12 [(0, .inr 18), (1, .inl (nI L)), (2, .inl x2), (3, .inl (nI i + 1))] [] (SG σ G F R') := by
        intro hk R'
        rw [nI_1]
        refine ih (i + 1) x2 G F R' (by omega) ?_
        rcases hI with ⟨h1, h2, h3, h4⟩ | ⟨k, e, h1, h2, h3, h4, h5, h6, h7, h8, h9⟩
        · left
          have hKL : K = L := by rw [h2, nI_eq (by omega) (by omega)] at hKF; exact hKF.symm
          refine ⟨h1, h2, h3, fun i' hi' j hj1 hj2 => ?_⟩
          by_cases e1 : i' = i
          · subst e1
            rw [← hp]
            rcases hk with hk | ⟨k, e, s, -, -, q3, q4, q5, -⟩
            · exact hk j hj1 (by omega)
            · exfalso
              rw [h1, nI_eq (by omega) (by have := cn_act (p := eA σ) q4 q5; omega)] at q3
              have := cn_act (p := eA σ) q4 q5
              omega
          · exact h4 i' (by omega) j hj1 hj2
        · right
          have hKk : k = K := by rw [h3, nI_eq (by omega) (by omega)] at hKF; exact hKF
          subst hKk
          refine ⟨k, e, h1, h2, h3, h4, h5, h6, ?_, fun i' hi' j hj1 hj2 => ?_, fun e' he' hi' hge => ?_⟩
          · obtain ⟨i', a, b⟩ := h7
            exact ⟨i', by omega, b⟩
          · by_cases e1 : i' = i
            · subst e1
              rw [← hp]
              rcases hk with hk | ⟨_, _, _, -, -, -, -, -, q6, -⟩
              · exact hk j hj1 (by omega)
              · exact q6 j hj1 hj2
            · exact h8 i' (by omega) j hj1 hj2
          · obtain ⟨i', a, b⟩ := hi'
            by_cases e1 : i' = i
            · subst e1
              rw [← hp] at b
              rcases hk with hk | ⟨_, e0, s, -, -, q3, q4, q5, q6, q7, q8⟩
              · exact hk k h1 (Nat.le_refl _) ((PC_gk h1).mpr ⟨e', hge, b.symm⟩)
              · have := q7 e' hge b.symm
                rw [h4, nI_eq (by have := cn_act (p := eA σ) h6.1 h6.2.1; omega) (by have := cn_act (p := eA σ) q4 q5; omega)] at q3
                have : e0 = e := by
                  rcases Nat.lt_trichotomy e0 e with c | c | c
                  · have := cn_act (p := eA σ) c q5; omega
                  · exact c
                  · have := cn_act (p := eA σ) c h6.2.1; omega
                omega
            · exact h9 e' he' ⟨i', by omega, b⟩ hge
      have body : OK 42 [(0, .inr 18), (1, .inl (nI L)), (2, .inl x2), (3, .inl (nI i)), (4, .inl (nI p))] [] (SG σ G F R) := by
        refine hC.go (fun q => if q = 12 then some 4 else none) 60 ?_
        refine dk_cs (nI p, nI K) rfl rfl ?_ ⟨hN, SG_EV hEV, ⟨p, hp31, rfl⟩, K, by omega, rfl⟩ (fun r σ1 hq => ?_)
        · show ([.inr 18, .inl (nI p), .inl F] : List dk_V) = [.inr 18, .inl (nI p), .inl (nI K)]
          rw [hKF]
        obtain ⟨R1, s, hσ1, hr, hs1, hno, hcase⟩ := hq
        rw [SG_rows] at hσ1
        rw [hσ1]
        have hno : ∀ j, 1 ≤ j → j < s → ¬ PCC σ j (nI p).toNatClampNeg := hno
        have hcase : (s ≤ (nI K).toNatClampNeg ∧ PCC σ s (nI p).toNatClampNeg ∧ ∀ j, j ≤ s → rb (R1 j) ∧ ∀ q, q < 31 → MxC σ j q (nI p).toNatClampNeg (R1 j q).toInt) ∨ s = (nI K).toNatClampNeg + 1 := hcase
        rw [ep, eK] at hcase
        rw [ep] at hno
        subst hr
        have hs33 : s ≤ 32 := by rcases hcase with ⟨h, -⟩ | h <;> omega
        refine ⟨by decide, fun h => ?_, fun h => ?_⟩
        · have h : F < nI s := h
          rw [hKF, nI_ltI (by omega) (by omega)] at h
          refine ⟨by decide, fun _ => ⟨by decide, ?_⟩, fun q => absurd rfl q⟩
          rcases hcase with ⟨h1, -⟩ | h1
          · omega
          · exact keep (Or.inl (fun j a b => hno j a (by omega))) R1
        · have h : ¬ F < nI s := h
          rw [hKF, nI_ltI (by omega) (by omega)] at h
          rcases hcase with ⟨hsK, hPC, hrows⟩ | h1
          · have e1 : nI s - 1 = nI (s - 1) := by
              have := nI_pred (s - 1)
              rw [show s - 1 + 1 = s by omega] at this
              exact this
            have es1 : (nI (s - 1)).toNatClampNeg = s - 1 := nI_clamp (by omega)
            have hr1 := hrows (s - 1) (by omega)
            refine dk_cs (nI p, nI (s - 1), 0) rfl rfl ?_ ⟨hN, SG_EV hEV, ⟨p, hp31, rfl⟩, ⟨s - 1, by omega, rfl, ?_⟩, by show -100000 ≤ (0 : Int32).toInt; decide, by show (0 : Int32).toInt ≤ 100000; decide⟩ (fun r2 σ2 hq => ?_)
            · show ([.inr 18, .inl (nI p), .inl (nI s - 1), .inl 0] : List dk_V) = [.inr 18, .inl (nI p), .inl (nI (s - 1)), .inl 0]
              rw [e1]
            · show rb (SG σ G F R1 (49 + (s - 1)))
              have : SG σ G F R1 (49 + (s - 1)) = R1 (s - 1) := rows_at (by omega)
              rw [this]
              exact hr1.1
            obtain ⟨hσ2, hr2⟩ := hq
            rw [hσ2]
            have hgeq : ∀ e, e < nE σ → (ge σ p (R1 (s - 1)) 0 e ↔ (gkC σ s e ∧ eF σ e = p)) := by
              intro e he
              have hMx := hr1.2 _ (eT_lt hN he).1
              by_cases hF : eF σ e = p
              · by_cases hA : eA σ e = true
                · have hb := hGb e he hA
                  have := Mx.pos hGb hMx (show s - 1 ≤ 31 by omega) (show eG σ e ≤ 100000 by omega)
                  constructor
                  · rintro ⟨q1, q2, q3⟩
                    rw [Int.zero_add] at q3
                    obtain ⟨x, hx1, hx2⟩ := this.mp q3
                    exact ⟨⟨he, hA, x, by rw [hF]; exact hx1, hx2⟩, hF⟩
                  · rintro ⟨⟨-, -, x, hx1, hx2⟩, -⟩
                    rw [hF] at hx1
                    exact ⟨hA, hF, by rw [Int.zero_add]; exact this.mpr ⟨x, hx1, hx2⟩⟩
                · exact ⟨fun q => absurd q.1 hA, fun q => absurd q.1.2.1 hA⟩
              · exact ⟨fun q => absurd q.2.1 hF, fun q => absurd q.2 hF⟩
            have hr2 : (r2 = -1 ∧ ∀ e, e < nE σ → ¬ ge σ (nI p).toNatClampNeg (SG σ G F R1 (49 + (nI (s - 1)).toNatClampNeg)) 0 e) ∨ ∃ e, e < nE σ ∧ r2 = nI (cn (eA σ) e) ∧ ge σ (nI p).toNatClampNeg (SG σ G F R1 (49 + (nI (s - 1)).toNatClampNeg)) 0 e ∧ ∀ e2, e2 < e → ¬ ge σ (nI p).toNatClampNeg (SG σ G F R1 (49 + (nI (s - 1)).toNatClampNeg)) 0 e2 := hr2
            have hrow : SG σ G F R1 (49 + (s - 1)) = R1 (s - 1) := rows_at (by omega)
            rw [ep, es1, hrow] at hr2
            rcases hr2 with ⟨-, hnone⟩ | ⟨e, he, hr2, hge, hleast⟩
            · exfalso
              obtain ⟨e, h1, h2⟩ := (PC_gk hs1).mp hPC
              exact hnone e h1.1 ((hgeq e h1.1).mpr ⟨h1, h2⟩)
            · obtain ⟨hgk, hFe⟩ := (hgeq e he).mp hge
              have hcn := cn_act (p := eA σ) he hge.1
              have hleast' : ∀ e', gkC σ s e' → eF σ e' = p → e ≤ e' := by
                intro e' h1 h2
                rcases Nat.lt_or_ge e' e with c | c
                · exact absurd ((hgeq e' h1.1).mpr ⟨h1, h2⟩) (hleast e' c)
                · exact c
              have hm1 : ¬ nI (cn (eA σ) e) = -1 := fun q => by
                have := congrArg Int32.toInt q
                rw [nI_toInt (by omega)] at this
                have e9 : (-1 : Int32).toInt = -1 := rfl
                omega
              subst hr2
              have upd_ok : ((s < K) ∨ (s = K ∧ ((x2 = nI (cn (eA σ) (nE σ))) ∨ ∃ e0, x2 = nI (cn (eA σ) e0) ∧ e0 < nE σ ∧ eA σ e0 = true ∧ e < e0))) → OK 12 [(0, .inr 18), (1, .inl (nI L)), (2, .inl (nI (cn (eA σ) e))), (3, .inl (nI i + 1))] [] (SG σ (nI p) (nI s) R1) := by
                intro hcond
                rw [nI_1]
                refine ih (i + 1) _ _ _ R1 (by omega) (Or.inr ⟨s, e, hs1, by omega, rfl, rfl, by rw [hFe], hgk, ⟨i, by omega, by rw [hFe, hp]⟩, fun i' hi' j hj1 hj2 => ?_, fun e' he' hi' hge' => ?_⟩)
                · by_cases c : i' = i
                  · subst c; rw [← hp]; exact hno j hj1 hj2
                  · rcases hI with ⟨-, h2, -, h4⟩ | ⟨k, e0, h1, h2, h3, h4, h5, h6, h7, h8, h9⟩
                    · exact h4 i' (by omega) j hj1 (by omega)
                    · have hKk : k = K := by rw [h3, nI_eq (by omega) (by omega)] at hKF; exact hKF
                      exact h8 i' (by omega) j hj1 (by omega)
                · obtain ⟨i', a, b⟩ := hi'
                  by_cases c : i' = i
                  · subst c
                    rw [← hp] at b
                    have := hleast' e' hge' b.symm
                    omega
                  · have hPC' := (PC_gk hs1).mpr ⟨e', hge', b.symm⟩
                    rcases hI with ⟨h1, h2, -, h4⟩ | ⟨k, e0, h1, h2, h3, h4, h5, h6, h7, h8, h9⟩
                    · exact h4 i' (by omega) s hs1 (by omega) hPC'
                    · have hKk : k = K := by rw [h3, nI_eq (by omega) (by omega)] at hKF; exact hKF
                      rcases hcond with hc | ⟨hc, hc2⟩
                      · exact h8 i' (by omega) s hs1 (by omega) hPC'
                      · have hc0 := cn_act (p := eA σ) h6.1 h6.2.1
                        rcases hc2 with hc2 | ⟨e1, q1, q2, q3, q4⟩
                        · rw [h4, nI_eq (by omega) (by omega)] at hc2
                          omega
                        · rw [h4, nI_eq (by omega) (by have := cn_act (p := eA σ) q2 q3; omega)] at q1
                          have : e1 = e0 := by
                            rcases Nat.lt_trichotomy e1 e0 with c | c | c
                            · have := cn_act (p := eA σ) c q3; omega
                            · exact c
                            · have := cn_act (p := eA σ) c h6.2.1; omega
                          subst this
                          exact h9 e' (by omega) ⟨i', by omega, b⟩ (by rw [hKk, ← hc]; exact hge')
              have hstore : dk_up (dk_up (SG σ G F R1) 18 (upd (SG σ G F R1 18) 8 (nI p))) 18 (upd (upd (SG σ G F R1 18) 8 (nI p)) 9 (nI s)) = SG σ (nI p) (nI s) R1 := SG_18
              refine ⟨by decide, fun q => absurd q hm1, fun _ => ⟨fun h5 => ⟨by decide, by decide, ?_⟩, fun h5 => ⟨fun h6 => ⟨by decide, ?_⟩, fun h6 => ⟨by decide, by decide, ?_⟩⟩⟩⟩
              · have h5 : nI s < F := h5
                rw [hKF, nI_ltI (by omega) (by omega)] at h5
                have key := upd_ok (Or.inl h5)
                rw [← hstore] at key
                exact key
              · have h5 : ¬ nI s < F := h5
                rw [hKF, nI_ltI (by omega) (by omega)] at h5
                have h6 : x2 ≤ nI (cn (eA σ) e) := h6
                have hsK2 : s = K := by omega
                rcases hI with ⟨h1, h2, h3, h4⟩ | ⟨k, e0, h1, h2, h3, h4, h5', h6', h7, h8, h9⟩
                · exfalso
                  rw [h1, nI_leI (by omega) (by omega)] at h6
                  omega
                · have hc0 := cn_act (p := eA σ) h6'.1 h6'.2.1
                  rw [h4, nI_leI (by omega) (by omega)] at h6
                  have hle : e0 ≤ e := by
                    rcases Nat.lt_or_ge e e0 with c | c
                    · have := cn_act (p := eA σ) c hge.1; omega
                    · exact c
                  refine keep (Or.inr ⟨K, e0, e, rfl, hKF, h4, h6'.1, h6'.2.1, fun j a b => hno j a (by omega), fun e' q1 q2 => hleast' e' (by rw [hsK2]; exact q1) q2, hle⟩) R1
              · have h5 : ¬ nI s < F := h5
                rw [hKF, nI_ltI (by omega) (by omega)] at h5
                have h6 : ¬ x2 ≤ nI (cn (eA σ) e) := h6
                have hsK2 : s = K := by omega
                have key := upd_ok (Or.inr ⟨hsK2, ?_⟩)
                · rw [← hstore] at key
                  exact key
                · rcases hI with ⟨h1, -⟩ | ⟨k, e0, h1, h2, h3, h4, h5', h6', h7, h8, h9⟩
                  · exact Or.inl h1
                  · right
                    have hc0 := cn_act (p := eA σ) h6'.1 h6'.2.1
                    rw [h4, nI_leI (by omega) (by omega)] at h6
                    refine ⟨e0, h4, h6'.1, h6'.2.1, ?_⟩
                    rcases Nat.lt_or_ge e e0 with c | c
                    · exact c
                    · exfalso
                      rcases Nat.eq_or_lt_of_le c with c | c
                      · rw [c] at h6; omega
                      · have := cn_act (p := eA σ) c h6'.2.1; omega
          · omega
      refine hC.go (fun q => if q = 42 then some 5 else none) 60 ?_
      refine ⟨fun h => ?_, fun _ => ⟨fun h => ⟨by decide, ?_⟩, fun h => ⟨by decide, ?_⟩⟩⟩
      · exfalso
        have h : σ 1 0 < nI i := h
        rw [hN.n, nI_ltI (by omega) (by omega)] at h
        omega
      · have h : σ 1 0 ≤ nI i := h
        rw [hN.n, nI_leI (by omega) (by omega)] at h
        have hp30 : p = 30 := by rw [hp]; unfold plI; rw [if_neg (by omega)]
        rw [hp30] at body
        exact body
      · have h : ¬ σ 1 0 ≤ nI i := h
        rw [hN.n, nI_leI (by omega) (by omega)] at h
        have hpi : p = i := by rw [hp]; unfold plI; rw [if_pos (by omega)]
        rw [hpi] at body
        exact body
  refine hC.go (fun q => if q = 12 then some 4 else none) 60 ?_
  refine ⟨by decide, by decide, ?_⟩
  have key := loop (nC σ + 1) 0 (σ 18 3) (σ 18 8) (nI L) (fun j => σ (49 + j)) (by omega) (Or.inl ⟨h183, rfl, rfl, fun i' hi' => by omega⟩)
  have e : SG σ (σ 18 8) (nI L) (fun j => σ (49 + j)) = dk_up σ 18 (upd (σ 18) 9 (nI L)) := by
    have e1 : upd (upd (σ 18) 8 (σ 18 8)) 9 (nI L) = upd (σ 18) 9 (nI L) := by
      funext j
      unfold upd
      by_cases c : j = 9
      · rw [if_pos c, if_pos c]
      · rw [if_neg c, if_neg c]
        split
        · next c2 => rw [c2]
        · rfl
    unfold SG
    rw [e1]
    have e2 : (fun j => σ (49 + j)) = fun j => dk_up σ 18 (upd (σ 18) 9 (nI L)) (49 + j) := by
      funext j
      rw [dk_up_ne (by omega)]
    rw [e2]
    exact rows_id (σ := dk_up σ 18 (upd (σ 18) 9 (nI L)))
  rw [e] at key
  exact key
