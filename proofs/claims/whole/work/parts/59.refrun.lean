/-! the reference's runs, running, busy, peak -/
def rcM (σ : dk_S) (s : Int) : Nat := cn (rn (xv (nC σ) (σ 43)) (dC σ) s) (nC σ)
abbrev sp_runs : dk_M := dk_sp 3 true (fun x : Int32 × Int32 => [.inr 30, .inl x.1, .inl x.2]) (fun x σ => RN σ ∧ KB1 σ ∧ ∃ k, k < nC σ ∧ x.1 = nI k) (fun x σ r σ' => σ' = σ ∧ r = if rn (xv (nC σ) (σ 43)) (dC σ) x.2.toInt x.1.toNatClampNeg = true then 1 else 0)
set_option maxRecDepth 100000 in
theorem q_runs : dk_pure (kX7_runs, fX7, [], [], nX7, 3, true) sp_runs := by
  refine dk_sp_pure (fun x x' e => by obtain ⟨a, b⟩ := x; obtain ⟨a', b'⟩ := x'; cases e; rfl) (fun _ => rfl) ?_
  rintro OK ⟨t, s⟩ σ ⟨⟨hN, hn, hm, hdur, hcon, hoo⟩, ⟨hB, -, -, -⟩, k, hk, hk1⟩ hC
  have hk1 : t = nI k := hk1
  subst hk1
  have hn30 := hN.n30
  have ek : (nI k).toNatClampNeg = k := nI_clamp (by omega)
  have hit : vp_in (nI k) 30 := vp_in_nI (by omega) (by omega)
  have hb := hB k hk
  have hd := hN.d hk
  have hadd : (σ 43 (nI k).toNatClampNeg + σ 31 (nI k).toNatClampNeg).toInt = (σ 43 k).toInt + dC σ k := by
    rw [ek, hdur k hk]
    exact dk_add (by unfold dC at hd; omega) (by unfold dC at hd; omega)
  have ern : (rn (xv (nC σ) (σ 43)) (dC σ) s.toInt (nI k).toNatClampNeg = true) ↔ ((σ 43 k).toInt ≤ s.toInt ∧ s.toInt < (σ 43 k).toInt + dC σ k) := by
    rw [ek]
    unfold rn
    have : xv (nC σ) (σ 43) k = (σ 43 k).toInt := if_pos hk
    rw [this, decide_eq_true_iff]
  refine hC.go (fun _ => none) 60 ?_
  refine ⟨30, rfl, hit, fun h => ⟨Or.inl rfl, rfl, ?_⟩, fun h => ⟨30, rfl, hit, 30, rfl, hit, fun h2 => ⟨Or.inl rfl, rfl, ?_⟩, fun h2 => ⟨Or.inr rfl, rfl, ?_⟩⟩⟩
  · have h : s < σ 43 (nI k).toNatClampNeg := h
    rw [ek, dk_lt] at h
    show (0 : Int32) = if rn (xv (nC σ) (σ 43)) (dC σ) s.toInt (nI k).toNatClampNeg = true then 1 else 0
    rw [if_neg (fun q => by have := ern.mp q; omega)]
  · have h2 : σ 43 (nI k).toNatClampNeg + σ 31 (nI k).toNatClampNeg ≤ s := h2
    rw [dk_le, hadd] at h2
    show (0 : Int32) = if rn (xv (nC σ) (σ 43)) (dC σ) s.toInt (nI k).toNatClampNeg = true then 1 else 0
    rw [if_neg (fun q => by have := ern.mp q; omega)]
  · have h : ¬ s < σ 43 (nI k).toNatClampNeg := h
    rw [ek, dk_lt] at h
    have h2 : ¬ σ 43 (nI k).toNatClampNeg + σ 31 (nI k).toNatClampNeg ≤ s := h2
    rw [dk_le, hadd] at h2
    show (1 : Int32) = if rn (xv (nC σ) (σ 43)) (dC σ) s.toInt (nI k).toNatClampNeg = true then 1 else 0
    rw [if_pos (ern.mpr (by omega))]
abbrev sp_running : dk_M := dk_sp 2 true (fun x : Int32 => [.inr 30, .inl x]) (fun _ σ => RN σ ∧ KB1 σ) (fun x σ r σ' => σ' = σ ∧ r = nI (rcM σ x.toInt))
set_option maxRecDepth 100000 in
set_option maxHeartbeats 1000000 in
theorem q_running : dk_pure (kX7_running, fX7, [(163, sp_runs)], [], nX7, 4, false) sp_running := by
  refine dk_sp_pure (fun x x' e => by cases e; rfl) (fun _ => rfl) ?_
  rintro OK s σ ⟨hR, hK⟩ hC
  have hN := hR.1
  have hn := hR.2.1
  have hn30 := hN.n30
  obtain ⟨p, hp⟩ : ∃ p, p = rn (xv (nC σ) (σ 43)) (dC σ) s.toInt := ⟨_, rfl⟩
  have loop : ∀ (d t : Nat), t + d = nC σ → OK 4 [(0, .inr 30), (1, .inl s), (2, .inl (nI (cn p t))), (3, .inl (nI t))] [] σ := by
    intro d
    induction d with
    | zero =>
      intro t ht
      have ht : t = nC σ := by omega
      subst ht
      refine hC.go (fun _ => none) 60 ?_
      refine ⟨fun _ => ⟨rfl, ?_⟩, fun h => ?_⟩
      · rw [hp]; rfl
      · exfalso
        apply h
        show σ 30 0 ≤ nI (nC σ)
        rw [hn]
        exact Int32.le_refl _
    | succ d ih =>
      intro t ht
      have et : (nI t).toNatClampNeg = t := nI_clamp (by omega)
      have at27 : ∀ z : Int32, nI (cn p t) + z = nI (cn p (t + 1)) → OK 27 [(0, .inr 30), (1, .inl s), (2, .inl (nI (cn p t))), (3, .inl (nI t))] [.inl z, .inl (nI (cn p t))] σ := by
        intro z hz
        refine hC.go (fun q => if q = 4 then some 4 else none) 60 ?_
        refine ⟨by decide, by decide, ?_⟩
        have key := ih (t + 1) (by omega)
        rw [← nI_1 t, ← hz] at key
        exact key
      refine hC.go (fun q => if q = 27 then some 4 else none) 60 ?_
      refine ⟨fun h => ?_, fun _ => dk_cs (nI t, s) rfl rfl rfl ⟨hR, hK, t, by omega, rfl⟩ (fun r σ1 hq => ?_)⟩
      · exfalso
        have h : σ 30 0 ≤ nI t := h
        rw [hn, nI_leI (by omega) (by omega)] at h
        omega
      obtain ⟨hσ1, hr⟩ := hq
      have hr : r = if rn (xv (nC σ) (σ 43)) (dC σ) s.toInt (nI t).toNatClampNeg = true then 1 else 0 := hr
      rw [et, ← hp] at hr
      rw [hσ1]
      refine ⟨fun h => at27 _ ?_, fun h => at27 _ ?_⟩
      · have h : r = 0 := h
        have hno : ¬ p t = true := fun q => by rw [hr, if_pos q] at h; exact absurd h i32_ne10
        have e : cn p (t + 1) = cn p t := by simp only [cn]; rw [if_neg hno]; rfl
        rw [e]
        show nI (cn p t) + nI 0 = _
        rw [nI_add]; rfl
      · have h : ¬ r = 0 := h
        have hyes : p t = true := by
          apply Classical.byContradiction
          intro q
          rw [hr, if_neg q] at h
          exact h rfl
        have e : cn p (t + 1) = cn p t + 1 := by simp only [cn]; rw [if_pos hyes]
        rw [e]
        show nI (cn p t) + nI 1 = _
        rw [nI_add]
  refine hC.go (fun q => if q = 4 then some 4 else none) 60 ?_
  exact ⟨by decide, by decide, loop (nC σ) 0 (by omega)⟩
abbrev sp_mbusy : dk_M := dk_sp 2 true (fun x : Int32 => [.inr 30, .inl x]) (fun _ σ => RN σ ∧ KB σ) (fun x σ r σ' => σ' = σ ∧ r = if tfM (σ 30 20) (σ 30 19) then nI (rcM σ x.toInt) else -2)
set_option maxRecDepth 100000 in
theorem q_mbusy : dk_pure (kX7_busy, fX7, [(156, sp_has), (166, sp_running)], [], nX7, 2, false) sp_mbusy := by
  refine dk_sp_pure (fun x x' e => by cases e; rfl) (fun _ => rfl) ?_
  rintro OK s σ ⟨hR, hK⟩ hC
  refine hC.go (fun _ => none) 60 ?_
  refine dk_cs () rfl rfl rfl trivial (fun r σ1 hq => ?_)
  obtain ⟨hσ1, hr⟩ := hq
  rw [hσ1]
  have hr : r = dk_b (tfM (σ 30 20) (σ 30 19)) := hr
  refine ⟨fun h => ⟨rfl, by rw [if_neg (dk_b0 hr h)]; rfl⟩, fun h => dk_cs s rfl rfl rfl ⟨hR, hK (dk_b1 hr h)⟩ (fun r2 σ2 hq2 => ⟨hq2.1, ?_⟩)⟩
  rw [if_pos (dk_b1 hr h)]
  exact hq2.2
abbrev sp_mpeak : dk_M := dk_sp 2 true (fun x : Int32 => [.inr 30, .inl x]) (fun _ σ => RN σ ∧ KB σ) (fun x σ r σ' => σ' = σ ∧ (((¬ x = 0 ∧ ¬ x = 1) ∧ r = -1) ∨ ((x = 0 ∨ x = 1) ∧ ¬ tfM (σ 30 20) (σ 30 19) ∧ r = -2) ∨ (tfM (σ 30 20) (σ 30 19) ∧ ∃ P : Int32, PK (xv (nC σ) (σ 43)) (dC σ) (nC σ) P.toInt ∧ ((x = 0 ∧ r = P) ∨ (x = 1 ∧ r = nI (rcM σ P.toInt))))))
theorem in01 (x : Int32) : (0 ≤ x ∧ x ≤ 1) ↔ (x = 0 ∨ x = 1) := by
  rw [dk_le, dk_le, dk_eq, dk_eq]
  have : (0 : Int32).toInt = 0 := rfl
  have : (1 : Int32).toInt = 1 := rfl
  omega
set_option maxRecDepth 100000 in
set_option maxHeartbeats 2000000 in
theorem q_mpeak : dk_pure (kX7_peak, fX7, [(156, sp_has), (166, sp_running)], [(79, sp_in)], nX7, 6, false) sp_mpeak := by
  refine dk_sp_pure (fun x x' e => by cases e; rfl) (fun _ => rfl) ?_
  rintro OK w σ ⟨hR, hK⟩ hC
  have hN := hR.1
  have hn30 := hN.n30
  refine hC.go (fun q => if q = 28 then some 5 else none) 60 ?_
  refine dk_cs (w, 0, 1) rfl rfl rfl trivial (fun r σ1 hq => ?_)
  obtain ⟨hσ1, hr⟩ := hq
  rw [hσ1]
  have hr : r = dk_b (0 ≤ w ∧ w ≤ 1) := hr
  refine ⟨fun h => ?_, fun h => ⟨rfl, Or.inl ⟨?_, rfl⟩⟩⟩
  · have hw := (in01 w).mp (dk_b1 hr h)
    refine dk_cs () rfl rfl rfl trivial (fun r2 σ2 hq2 => ?_)
    obtain ⟨hσ2, hr2⟩ := hq2
    rw [hσ2]
    have hr2 : r2 = dk_b (tfM (σ 30 20) (σ 30 19)) := hr2
    refine ⟨fun h2 => ?_, fun h2 => ⟨rfl, Or.inr (Or.inl ⟨hw, dk_b0 hr2 (Classical.not_not.mp h2), rfl⟩)⟩⟩
    have htf := dk_b1 hr2 h2
    have hK1 := hK htf
    obtain ⟨hB, hL1, hL2, hend⟩ := hK1
    obtain ⟨L, hL, hLe⟩ : ∃ L : Nat, L ≤ 4001000 ∧ σ 30 23 = nI L := by
      refine ⟨(σ 30 23).toInt.toNat, by omega, ?_⟩
      rw [dk_eq, nI_toInt (by omega)]
      omega
    have hLi : (σ 30 23).toInt = L := by rw [hLe, nI_toInt (by omega)]
    obtain ⟨cnt, hcnt⟩ : ∃ cnt : Int → Nat, cnt = rcM σ := ⟨_, rfl⟩
    have hc30 : ∀ s, cnt s ≤ 30 := fun s => by
      rw [hcnt]
      have := cn_le (rn (xv (nC σ) (σ 43)) (dC σ) s) (nC σ)
      show cn (rn (xv (nC σ) (σ 43)) (dC σ) s) (nC σ) ≤ 30
      omega
    have hout : ∀ s : Int, (s < 0 ∨ (L : Int) ≤ s) → cnt s = 0 := fun s hs => by
      apply Classical.byContradiction
      intro c
      rw [hcnt] at c
      have c : ¬ cn (rn (xv (nC σ) (σ 43)) (dC σ) s) (nC σ) = 0 := c
      obtain ⟨i, hi, hp⟩ := cn_pos (p := rn (xv (nC σ) (σ 43)) (dC σ) s) (n := nC σ) (by omega)
      have hp := of_decide_eq_true hp
      have e1 : xv (nC σ) (σ 43) i = (σ 43 i).toInt := if_pos hi
      rw [e1] at hp
      have h1 := hB i hi
      have h2 := hend i hi
      omega
    have loop : ∀ (d s m a : Nat), s + d = L → m ≤ 30 → (∀ q : Nat, q < s → cnt q ≤ m) → ((m = 0 ∧ a = 0) ∨ (0 < m ∧ a < s ∧ cnt a = m ∧ ∀ q : Nat, q < a → cnt q < m)) → OK 28 [(0, .inr 30), (1, .inl w), (2, .inl (nI m)), (3, .inl (nI a)), (4, .inl (nI s))] [] σ := by
      intro d
      induction d with
      | zero =>
        intro s m a hs hm h1 h2'
        have hs : s = L := by omega
        subst hs
        have ha : a ≤ s := by rcases h2' with q | q <;> omega
        have hcm : cnt (nI a).toInt = m := by
          rw [nI_toInt (by omega)]
          rcases h2' with ⟨q1, q2⟩ | ⟨-, -, q, -⟩
          · rw [q1, q2]
            by_cases c : 0 < s
            · have := h1 0 c; rw [q1] at this; exact Nat.le_zero.mp this
            · exact hout _ (Or.inr (by omega))
          · exact q
        have hPK : PK (xv (nC σ) (σ 43)) (dC σ) (nC σ) (nI a).toInt := by
          have e1 : ∀ s, cn (rn (xv (nC σ) (σ 43)) (dC σ) s) (nC σ) = cnt s := fun s => by rw [hcnt]; rfl
          unfold PK
          simp only [e1]
          rw [hcm, nI_toInt (by omega)]
          refine ⟨by omega, fun q => ?_, fun q q1 q2 => ?_⟩
          · by_cases c : q < 0 ∨ (s : Int) ≤ q
            · rw [hout q c]; omega
            · have := h1 q.toNat (by omega)
              rw [show ((q.toNat : Nat) : Int) = q by omega] at this
              exact this
          · rcases h2' with ⟨-, q3⟩ | ⟨-, -, -, q3⟩
            · omega
            · have := q3 q.toNat (by omega)
              rw [show ((q.toNat : Nat) : Int) = q by omega] at this
              exact this
        refine hC.go (fun _ => none) 60 ?_
        refine ⟨fun _ => ⟨fun h3 => ⟨rfl, Or.inr (Or.inr ⟨htf, nI a, hPK, Or.inr ⟨hw.resolve_left h3, ?_⟩⟩)⟩, fun h3 => ⟨rfl, Or.inr (Or.inr ⟨htf, nI a, hPK, Or.inl ⟨Classical.not_not.mp h3, rfl⟩⟩)⟩⟩, fun h3 => ?_⟩
        · rw [← hcnt, hcm]
        · exfalso
          apply h3
          show σ 30 23 ≤ nI s
          rw [hLe]
          exact Int32.le_refl _
      | succ d ih =>
        intro s m a hs hm h1 h2'
        refine hC.go (fun q => if q = 28 then some 5 else none) 60 ?_
        refine ⟨fun h3 => ?_, fun _ => dk_cs (nI s) rfl rfl rfl ⟨hR, hK htf⟩ (fun r3 σ3 hq3 => ?_)⟩
        · exfalso
          have h3 : σ 30 23 ≤ nI s := h3
          rw [hLe, nI_leI (by omega) (by omega)] at h3
          omega
        obtain ⟨hσ3, hr3⟩ := hq3
        have hr3 : r3 = nI (rcM σ (nI s).toInt) := hr3
        rw [nI_toInt (by omega), ← hcnt] at hr3
        rw [hσ3, hr3]
        have hcs := hc30 s
        refine ⟨by decide, fun h3 => ⟨by decide, by decide, by decide, ?_⟩, fun h3 => ⟨by decide, ?_⟩⟩
        · have h3 : nI m < nI (cnt s) := h3
          rw [nI_ltI (by omega) (by omega)] at h3
          have key := ih (s + 1) (cnt s) s (by omega) hcs (fun q hq => by
            by_cases c : q = s
            · rw [c]; exact Nat.le_refl _
            · have := h1 q (by omega); omega) (Or.inr ⟨by omega, by omega, rfl, fun q hq => by have := h1 q hq; omega⟩)
          rw [← nI_1 s] at key
          exact key
        · have h3 : ¬ nI m < nI (cnt s) := h3
          rw [nI_ltI (by omega) (by omega)] at h3
          have key := ih (s + 1) m a (by omega) hm (fun q hq => by
            by_cases c : q = s
            · rw [c]; omega
            · exact h1 q (by omega)) (by
            rcases h2' with q | ⟨q1, q2, q3, q4⟩
            · exact Or.inl q
            · exact Or.inr ⟨q1, by omega, q3, q4⟩)
          rw [← nI_1 s] at key
          exact key
    refine ⟨by decide, by decide, by decide, ?_⟩
    exact loop L 0 0 0 (by omega) (by omega) (fun q hq => by omega) (Or.inl ⟨rfl, rfl⟩)
  · have h : ¬ ¬ r = 0 := h
    have hno := dk_b0 hr (Classical.not_not.mp h)
    rw [in01] at hno
    exact ⟨fun q => hno (Or.inl q), fun q => hno (Or.inr q)⟩
