/-! measure, leastEdge -/
theorem EV.at {σ : dk_S} (h : EV σ) {e : Nat} (he : e < nE σ) (ha : eA σ e = true) : σ 20 (cn (eA σ) e) = nI (eN σ e) ∧ σ 21 (cn (eA σ) e) = nI (eF σ e) ∧ σ 22 (cn (eA σ) e) = nI (eT σ e) ∧ (σ 23 (cn (eA σ) e)).toInt = eG σ e ∧ σ 18 3 = nI (cn (eA σ) (nE σ)) ∧ cn (eA σ) e < cn (eA σ) (nE σ) := by
  obtain ⟨k, φ, hk, h1, h2, h3, h4, h5, h6⟩ := h
  obtain ⟨i, hi1, hi2⟩ := h3 e he ha
  have e1 : cn (eA σ) e = i := by rw [← hi2]; exact h6 i hi1
  obtain ⟨-, -, q1, q2, q3, q4⟩ := h1 i hi1
  rw [hi2] at q1 q2 q3 q4
  rw [e1, ← h5]
  exact ⟨q1, q2, q3, q4, hk, hi1⟩
theorem EV.rows {σ : dk_S} {R : Nat → Nat → Int32} (h : EV σ) : EV (dk_rows σ R) := h
def rb (f : Nat → Int32) : Prop := ∀ p, p < 31 → -1000000 ≤ (f p).toInt ∧ (f p).toInt ≤ 100000
/-- an edge that may be taken -/
def ge (σ : dk_S) (p : Nat) (f : Nat → Int32) (s : Int) (e : Nat) : Prop := eA σ e = true ∧ eF σ e = p ∧ 0 < s + eG σ e + (f (eT σ e)).toInt
abbrev sp_leastEdge : dk_M := dk_sp 4 true (fun x : Int32 × Int32 × Int32 => [.inr 18, .inl x.1, .inl x.2.1, .inl x.2.2]) (fun x σ => NW σ ∧ EV σ ∧ (∃ p, p < 31 ∧ x.1 = nI p) ∧ (∃ j, j < 32 ∧ x.2.1 = nI j ∧ rb (σ (49 + j))) ∧ -100000 ≤ x.2.2.toInt ∧ x.2.2.toInt ≤ 100000)
  (fun x σ r σ' => σ' = σ ∧ ((r = -1 ∧ ∀ e, e < nE σ → ¬ ge σ x.1.toNatClampNeg (σ (49 + x.2.1.toNatClampNeg)) x.2.2.toInt e) ∨ ∃ e, e < nE σ ∧ r = nI (cn (eA σ) e) ∧ ge σ x.1.toNatClampNeg (σ (49 + x.2.1.toNatClampNeg)) x.2.2.toInt e ∧ ∀ e2, e2 < e → ¬ ge σ x.1.toNatClampNeg (σ (49 + x.2.1.toNatClampNeg)) x.2.2.toInt e2))
set_option maxRecDepth 100000 in
set_option maxHeartbeats 2000000 in
theorem q_leastEdge : dk_pure (kX1_leastEdge, fX1, [], [], nX1, 5, false) sp_leastEdge := by
  refine dk_sp_pure (fun x x' e => by obtain ⟨a, b, c⟩ := x; obtain ⟨a', b', c'⟩ := x'; cases e; rfl) (fun _ => rfl) ?_
  rintro OK ⟨xp, xj, s⟩ σ ⟨hN, ⟨k, φ, hk, hE⟩, ⟨p, hp, hxp⟩, ⟨j, hj, hxj, hrb⟩, hs1, hs2⟩ hC
  have hxp : xp = nI p := hxp
  have hxj : xj = nI j := hxj
  have hs1 : -100000 ≤ s.toInt := hs1
  have hs2 : s.toInt ≤ 100000 := hs2
  subst hxp
  subst hxj
  have hn := hN.n30
  have hm := hN.m120
  obtain ⟨hE1, hE2, hE3, hE4, hE5, hE6⟩ := hE
  have hk150 : k ≤ 150 := by unfold nE at hE4; omega
  have ej : (nI j).toNatClampNeg = j := nI_clamp (by omega)
  have ep : (nI p).toNatClampNeg = p := nI_clamp (by omega)
  have hra := row_arr (49 + j) (by omega) (by omega)
  have loop : ∀ (d i : Nat), i + d = k → (∀ q, q < i → ¬ ge σ p (σ (49 + j)) s.toInt (φ q)) → OK 3 [(0, .inr 18), (1, .inl (nI p)), (2, .inl (nI j)), (3, .inl s), (4, .inl (nI i))] [] σ := by
    intro d
    induction d with
    | zero =>
      intro i hi hno
      refine hC.go (fun q => if q = 3 then some 5 else none) 60 ?_
      refine ⟨fun _ => ⟨rfl, Or.inl ⟨rfl, fun e he hge => ?_⟩⟩, fun h => ?_⟩
      · have hge : ge σ (nI p).toNatClampNeg (σ (49 + (nI j).toNatClampNeg)) s.toInt e := hge
        rw [ep, ej] at hge
        obtain ⟨q, hq1, hq2⟩ := hE3 e he hge.1
        exact hno q (by omega) (by rw [hq2]; exact hge)
      · exfalso
        apply h
        show σ 18 3 ≤ nI i
        rw [hk, show k = i by omega]
        exact Int32.le_refl _
    | succ d ih =>
      intro i hi hno
      have ei : (nI i).toNatClampNeg = i := nI_clamp (by omega)
      have hii : vp_in (nI i) 150 := vp_in_nI (by omega) (by omega)
      obtain ⟨p1, p2, p3, p4, p5, p6⟩ := hE1 i (by omega)
      have hF := (eF_lt hN p1).1
      have hT := (eT_lt hN p1).1
      have hG := eG_bd hN _ p1 p2
      have eT' : (nI (eT σ (φ i))).toNatClampNeg = eT σ (φ i) := nI_clamp (by omega)
      have hR := hrb _ hT
      have a1 : (s + σ 23 i).toInt = s.toInt + eG σ (φ i) := by rw [← p6]; exact dk_add (by rw [p6]; omega) (by rw [p6]; omega)
      have a2 : (s + σ 23 i + σ (49 + j) (eT σ (φ i))).toInt = s.toInt + eG σ (φ i) + (σ (49 + j) (eT σ (φ i))).toInt := by
        rw [← a1]
        exact dk_add (by rw [a1]; omega) (by rw [a1]; omega)
      have keep : ¬ ge σ p (σ (49 + j)) s.toInt (φ i) → OK 3 [(0, .inr 18), (1, .inl (nI p)), (2, .inl (nI j)), (3, .inl s), (4, .inl (nI i + 1))] [] σ := by
        intro hg
        rw [nI_1]
        refine ih (i + 1) (by omega) (fun q hq => ?_)
        by_cases e : q = i
        · subst e; exact hg
        · exact hno q (by omega)
      refine hC.go (fun q => if q = 3 then some 5 else none) 60 ?_
      refine ⟨fun h => ?_, fun _ => ⟨150, rfl, hii, fun h => ⟨by decide, keep (fun q => ?_)⟩, fun h => ⟨150, rfl, hii, rfl, vp_in_nI (by omega) (by omega), 150, rfl, hii, 31, ?_, ?_, fun h2 => ⟨by decide, keep (fun q => ?_)⟩, fun h2 => ⟨rfl, Or.inr ⟨φ i, p1, ?_, ?_, ?_⟩⟩⟩⟩⟩
      · exfalso
        have h : σ 18 3 ≤ nI i := h
        rw [hk] at h
        exact nI_ge (by omega) (by omega) h
      · have h : ¬ σ 21 (nI i).toNatClampNeg = nI p := h
        rw [ei, p4] at h
        exact h (by rw [q.2.1])
      · rw [ej]; exact hra
      · rw [ei, p5]; exact vp_in_nI hT (by omega)
      · have h2 : s + σ 23 (nI i).toNatClampNeg + σ (49 + (nI j).toNatClampNeg) (σ 22 (nI i).toNatClampNeg).toNatClampNeg ≤ 0 := h2
        rw [ei, ej, p5, eT', dk_le, a2, i0] at h2
        have := q.2.2
        omega
      · show nI i = _
        rw [hE6 i (by omega)]
      · have h : ¬ ¬ σ 21 (nI i).toNatClampNeg = nI p := h
        rw [ei, p4] at h
        have h := Classical.not_not.mp h
        rw [nI_eq (by omega) (by omega)] at h
        have h2 : ¬ s + σ 23 (nI i).toNatClampNeg + σ (49 + (nI j).toNatClampNeg) (σ 22 (nI i).toNatClampNeg).toNatClampNeg ≤ 0 := h2
        rw [ei, ej, p5, eT', dk_le, a2, i0] at h2
        show ge σ (nI p).toNatClampNeg (σ (49 + (nI j).toNatClampNeg)) s.toInt (φ i)
        rw [ep, ej]
        exact ⟨p2, h, by omega⟩
      · intro e2 he2 hge
        have hge : ge σ (nI p).toNatClampNeg (σ (49 + (nI j).toNatClampNeg)) s.toInt e2 := hge
        rw [ep, ej] at hge
        obtain ⟨q, hq1, hq2⟩ := hE3 e2 (by omega) hge.1
        have hqi : q < i := by
          rcases Nat.lt_trichotomy q i with c | c | c
          · exact c
          · rw [c] at hq2; omega
          · have := hE2 i q c hq1; omega
        exact hno q hqi (by rw [hq2]; exact hge)
  refine hC.go (fun q => if q = 3 then some 5 else none) 60 ?_
  refine ⟨by decide, ?_⟩
  exact loop k 0 (by omega) (fun q hq => by omega)
abbrev sp_circleMeasure : dk_M := dk_sp 3 true (fun x : Int32 × Int32 => [.inr 18, .inl x.1, .inl x.2]) (fun x σ => NW σ ∧ EV σ ∧ (∃ p, p < 31 ∧ x.1 = nI p) ∧ ∃ l, l ≤ 31 ∧ x.2 = nI l)
  (fun x σ r σ' => ∃ R s, σ' = dk_rows σ R ∧ r = nI s ∧ 1 ≤ s ∧ (∀ j, 1 ≤ j → j < s → ¬ PCC σ j x.1.toNatClampNeg) ∧ ((s ≤ x.2.toNatClampNeg ∧ PCC σ s x.1.toNatClampNeg ∧ ∀ j, j ≤ s → rb (R j) ∧ ∀ q, q < 31 → MxC σ j q x.1.toNatClampNeg (R j q).toInt) ∨ s = x.2.toNatClampNeg + 1))
set_option maxRecDepth 100000 in
set_option maxHeartbeats 2000000 in
theorem q_circleMeasure : dk_pure (kX1_measure, fX1, [(98, sp_addStep)], [(92, sp_fill)], nX1, 4, false) sp_circleMeasure := by
  refine dk_sp_pure (fun x x' e => by obtain ⟨a, b⟩ := x; obtain ⟨a', b'⟩ := x'; cases e; rfl) (fun _ => rfl) ?_
  rintro OK ⟨xp, xl⟩ σ ⟨hN, hEV, ⟨p, hp, hxp⟩, ⟨l, hl, hxl⟩⟩ hC
  have hxp : xp = nI p := hxp
  have hxl : xl = nI l := hxl
  subst hxp
  subst hxl
  have ep : (nI p).toNatClampNeg = p := nI_clamp (by omega)
  have el : (nI l).toNatClampNeg = l := nI_clamp (by omega)
  have hip : vp_in (nI p) 31 := vp_in_nI hp (by omega)
  have loop : ∀ (d s : Nat) (R : Nat → Nat → Int32), s + d = l + 1 → 1 ≤ s → (∀ j, 1 ≤ j → j < s → ¬ PCC σ j p) → (∀ j, j < s → rb (R j) ∧ ∀ q, q < 31 → MxC σ j q p (R j q).toInt) → OK 22 [(0, .inr 18), (1, .inl (nI p)), (2, .inl (nI l)), (3, .inl (nI s))] [] (dk_rows σ R) := by
    intro d
    induction d with
    | zero =>
      intro s R hs hs1 hno hR
      have fin : ∃ R' s', dk_rows σ R = dk_rows σ R' ∧ nI l + 1 = nI s' ∧ 1 ≤ s' ∧ (∀ j, 1 ≤ j → j < s' → ¬ PCC σ j (nI p).toNatClampNeg) ∧ ((s' ≤ (nI l).toNatClampNeg ∧ PCC σ s' (nI p).toNatClampNeg ∧ ∀ j, j ≤ s' → rb (R' j) ∧ ∀ q, q < 31 → MxC σ j q (nI p).toNatClampNeg (R' j q).toInt) ∨ s' = (nI l).toNatClampNeg + 1) := by
        rw [ep, el]
        exact ⟨R, l + 1, rfl, nI_1 l, by omega, fun j a b => hno j a (by omega), Or.inr rfl⟩
      refine hC.go (fun q => if q = 22 then some 4 else none) 60 ?_
      refine ⟨fun _ => fin, fun h => ?_⟩
      exact absurd (show nI l < nI s from nI_lt (by omega) (by omega)) h
    | succ d ih =>
      intro s R hs hs1 hno hR
      have e1 : nI s - 1 = nI (s - 1) := by
        have := nI_pred (s - 1)
        rw [show s - 1 + 1 = s by omega] at this
        exact this
      have es1 : (nI (s - 1)).toNatClampNeg = s - 1 := nI_clamp (by omega)
      have es2 : s - 1 + 1 = s := Nat.sub_add_cancel hs1
      have es : (nI s).toNatClampNeg = s := nI_clamp (by omega)
      have hRs := hR (s - 1) (by omega)
      refine hC.go (fun q => if q = 22 then some 4 else none) 60 ?_
      refine ⟨fun h => ?_, fun _ => ⟨fun h => ?_, fun _ => ⟨rfl, ?_, rfl, ?_, ?_⟩⟩⟩
      · exact absurd (show nI l < nI s from h) (nI_nlt (by omega) (by omega))
      · exact absurd (show nI 31 < nI s from h) (nI_nlt (by omega) (by omega))
      · show vp_in (nI s - 1) 32
        rw [e1]; exact vp_in_nI (by omega) (by omega)
      · exact vp_in_nI (by omega) (by omega)
      show dk_call sp_addStep [.inr (49 + (nI s).toNatClampNeg), .inr (49 + (nI s - 1).toNatClampNeg), .inr 18] (dk_rows σ R) _
      rw [e1, es1, es]
      refine dk_cs (49 + (s - 1), 49 + s) rfl rfl rfl ⟨⟨by show 49 ≤ 49 + (s - 1); omega, by show 49 + (s - 1) < 81; omega, by show 49 ≤ 49 + s; omega, by show 49 + s < 81; omega, by show ¬ 49 + (s - 1) = 49 + s; omega⟩, hN, hEV.rows, ?_⟩ (fun _ σ1 hq => ?_)
      · show ∀ p, p < 31 → -1000000 ≤ (dk_rows σ R (49 + (s - 1)) p).toInt ∧ (dk_rows σ R (49 + (s - 1)) p).toInt ≤ 100000
        rw [rows_at (by omega)]
        exact hRs.1
      obtain ⟨f, hσ1, hf⟩ := hq
      have hσ1 : σ1 = dk_up (dk_rows σ R) (49 + s) f := hσ1
      have hf : ∀ p, p < 31 → -1000000 ≤ (f p).toInt ∧ (∀ e, e < nE σ → eA σ e = true → eF σ e = p → (dk_rows σ R (49 + (s - 1)) (eT σ e)).toInt + eG σ e ≤ (f p).toInt) ∧ ((f p).toInt = -1000000 ∨ ∃ e, e < nE σ ∧ eA σ e = true ∧ eF σ e = p ∧ (f p).toInt = (dk_rows σ R (49 + (s - 1)) (eT σ e)).toInt + eG σ e) := hf
      rw [rows_at (by omega)] at hf
      rw [rows_up (by omega)] at hσ1
      rw [hσ1]
      have hMf : ∀ q, q < 31 → MxC σ s q p (f q).toInt := by
        intro q hq
        obtain ⟨-, g2, g3⟩ := hf q hq
        have := Mx.step (q := p) (eG_bd hN) (b := fun t => (R (s - 1) t).toInt) (show s - 1 ≤ 31 by omega) (fun e he hea hef => hRs.2 _ (eT_lt hN he).1) g2 g3
        rw [es2] at this
        exact this
      have hrf : rb f := fun q hq => ⟨(hf q hq).1, by have := Mx.lo (eG_bd hN) (hMf q hq) (show s ≤ 31 by omega); omega⟩
      have hR' : ∀ j, j < s + 1 → rb ((fun i => if i = s then f else R i) j) ∧ ∀ q, q < 31 → MxC σ j q p ((fun i => if i = s then f else R i) j q).toInt := by
        intro j hj
        try dsimp only
        by_cases e : j = s
        · rw [if_pos e, e]; exact ⟨hrf, hMf⟩
        · rw [if_neg e]; exact hR j (by omega)
      have hpos : 0 < (f p).toInt ↔ PCC σ s p := by
        have := Mx.pos (eG_bd hN) (hMf p hp) (show s ≤ 31 by omega) (show (0 : Int) ≤ 100000 by omega)
        rw [Int.zero_add] at this
        rw [this]
        constructor
        · rintro ⟨x, h1, h2⟩; exact ⟨x, by omega, h1⟩
        · rintro ⟨x, h1, h2⟩; exact ⟨x, h2, by omega⟩
      refine ⟨rfl, vp_in_nI (by omega) (by omega), 31, ?_, hip, fun h2 => ⟨by decide, ?_⟩, fun h2 => ?_⟩
      · rw [es]; exact row_arr _ (by omega) (by omega)
      · have h2 : dk_rows σ (fun i => if i = s then f else R i) (49 + (nI s).toNatClampNeg) (nI p).toNatClampNeg ≤ 0 := h2
        rw [es, ep, rows_at (by omega), if_pos rfl, dk_le, i0] at h2
        have key := ih (s + 1) _ (by omega) (by omega) (fun j a b => ?_) hR'
        · rw [← nI_1 s] at key
          exact key
        · by_cases e : j = s
          · subst e
            intro q
            have := hpos.mpr q
            omega
          · exact hno j a (by omega)
      · have h2 : ¬ dk_rows σ (fun i => if i = s then f else R i) (49 + (nI s).toNatClampNeg) (nI p).toNatClampNeg ≤ 0 := h2
        rw [es, ep, rows_at (by omega), if_pos rfl, dk_le, i0] at h2
        refine ⟨_, s, rfl, rfl, hs1, ?_, Or.inl ⟨?_, ?_, fun j hj => ?_⟩⟩
        · show ∀ j, 1 ≤ j → j < s → ¬ PCC σ j (nI p).toNatClampNeg
          rw [ep]
          exact hno
        · show s ≤ (nI l).toNatClampNeg
          rw [el]; omega
        · show PCC σ s (nI p).toNatClampNeg
          rw [ep]
          exact hpos.mp (by omega)
        · show rb ((fun i => if i = s then f else R i) j) ∧ ∀ q, q < 31 → MxC σ j q (nI p).toNatClampNeg ((fun i => if i = s then f else R i) j q).toInt
          rw [ep]
          exact hR' j (by omega)
  refine hC.go (fun q => if q = 22 then some 4 else none) 60 ?_
  refine ⟨rfl, vp_in_nI (show 0 < 32 by omega) (by omega), ?_⟩
  refine dk_cs (49, -1000000) rfl rfl rfl ⟨31, rfl⟩ (fun _ σ1 hq => ?_)
  have hq := hq 31 rfl
  rw [hq]
  refine ⟨rfl, vp_in_nI (show 0 < 32 by omega) (by omega), 31, rfl, hip, by decide, ?_⟩
  have hS : dk_up (dk_up σ 49 (fun j => if j < 31 then (-1000000 : Int32) else σ 49 j)) 49 (upd (fun j => if j < 31 then (-1000000 : Int32) else σ 49 j) (nI p).toNatClampNeg 0) = dk_rows σ (fun i => if i = 0 then upd (fun j => if j < 31 then (-1000000 : Int32) else σ 49 j) p 0 else σ (49 + i)) := by
    rw [dk_up_up, ep]
    conv => lhs; rw [← rows_id (σ := σ)]
    have := rows_up (σ := σ) (R := fun j => σ (49 + j)) (j := 0) (by omega) (f := upd (fun j => if j < 31 then (-1000000 : Int32) else σ 49 j) p 0)
    exact this
  have key := loop l 1 (fun i => if i = 0 then upd (fun j => if j < 31 then (-1000000 : Int32) else σ 49 j) p 0 else σ (49 + i)) (by omega) (by omega) (fun j a b => by omega) (fun j hj => ?_)
  · rw [← hS] at key
    exact key
  · have hj : j = 0 := by omega
    subst hj
    try dsimp only
    rw [if_pos rfl]
    have hval : ∀ q, q < 31 → (upd (fun j => if j < 31 then (-1000000 : Int32) else σ 49 j) p 0 q).toInt = if q = p then 0 else -1000000 := by
      intro q hq
      unfold upd
      split
      · rfl
      · try dsimp only
        rw [if_pos hq]; rfl
    refine ⟨fun q hq => ?_, fun q hq => ?_⟩
    · rw [hval q hq]; split <;> omega
    · rw [hval q hq]
      exact Mx.zero q p
