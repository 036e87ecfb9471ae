/-! Match.holds, coverSize -/
def Cov (ru ct cw : Int32) (sk : Nat → Int32) (t : Nat) : Prop := ¬ bt ru t = true ∨ bt ct t = true ∨ sk t &&& (cw ^^^ (-1)) = 0
abbrev sp_holds : dk_M := dk_sp 2 true (fun x : Int32 => [.inr 25, .inl x]) (fun _ σ => ∀ t, t < 30 → σ 26 t = -1 ∨ ∃ w, w < 16 ∧ σ 26 t = nI w ∧ bt (σ 8 t) w = true)
  (fun x σ r σ' => σ' = σ ∧ ((r = 1 ∧ σ 25 3 = x ∧ ∀ t, t < 30 → Cov (σ 25 3) (σ 25 4) (σ 25 5) (σ 8) t) ∨ (r = 0 ∧ ¬ (σ 25 3 = x ∧ ∀ t, t < 30 → Cov (σ 25 3) (σ 25 4) (σ 25 5) (σ 8) t))))
set_option maxRecDepth 100000 in
set_option maxHeartbeats 4000000 in
theorem q_holds : dk_pure (kX3_holds, fX3, [], [(55, sp_holdsBit)], nX3, 6, true) sp_holds := by
  refine dk_sp_pure (fun x x' e => by cases e; rfl) (fun _ => rfl) ?_
  rintro OK x σ hwt hC
  have hwt : ∀ t, t < 30 → σ 26 t = -1 ∨ ∃ w, w < 16 ∧ σ 26 t = nI w ∧ bt (σ 8 t) w = true := hwt
  have main : σ 25 3 = x → OK 10 [(0, .inr 25), (1, .inl x)] [] σ := by
    intro hx
    have loop : ∀ (d t : Nat), t + d = 30 → (∀ s, s < t → Cov (σ 25 3) (σ 25 4) (σ 25 5) (σ 8) s) → OK 12 [(0, .inr 25), (1, .inl x), (2, .inl (nI t))] [] σ := by
      intro d
      induction d with
      | zero =>
        intro t ht hI
        have ht : t = 30 := by omega
        subst ht
        refine hC.go (fun q => if q = 12 then some 3 else none) 60 ?_
        exact ⟨fun _ => ⟨Or.inr rfl, rfl, Or.inl ⟨rfl, hx, hI⟩⟩, fun h => absurd (show nI 30 ≤ nI 30 by decide) h⟩
      | succ d ih =>
        intro t ht hI
        have et : (nI t).toNatClampNeg = t := nI_clamp (by omega)
        have hit : vp_in (nI t) 30 := vp_in_nI (by omega) (by omega)
        have at93 : ∀ b : Int32, (b = 1 ∧ Cov (σ 25 3) (σ 25 4) (σ 25 5) (σ 8) t) ∨ (b = 0 ∧ ¬ Cov (σ 25 3) (σ 25 4) (σ 25 5) (σ 8) t) → OK 93 [(0, .inr 25), (1, .inl x), (2, .inl (nI t)), (3, .inl (σ 26 (nI t).toNatClampNeg)), (4, .inl 0)] [.inl b] σ := by
          intro b hb
          refine hC.go (fun q => if q = 12 then some 3 else none) 60 ?_
          refine ⟨by decide, fun h => absurd rfl h, fun _ => ⟨fun h => ⟨by decide, ?_⟩, fun h => ⟨Or.inl rfl, rfl, Or.inr ⟨rfl, fun q => ?_⟩⟩⟩⟩
          · have h : ¬ b = 0 := h
            rcases hb with ⟨-, hb⟩ | ⟨hb, -⟩
            · have key := ih (t + 1) (by omega) (fun s hs => by
                by_cases e : s = t
                · rw [e]; exact hb
                · exact hI s (by omega))
              rw [← nI_1 t] at key
              exact key
            · exact absurd hb h
          · have h : ¬ ¬ b = 0 := h
            rcases hb with ⟨hb, -⟩ | ⟨-, hb⟩
            · exact h (by rw [hb]; exact i32_ne10)
            · exact hb (q.2 t (by omega))
        have at48 : OK 48 [(0, .inr 25), (1, .inl x), (2, .inl (nI t)), (3, .inl (σ 26 (nI t).toNatClampNeg))] [.inl 0] σ := by
          refine hC.go (fun q => if q = 93 then some 5 else none) 60 ?_
          refine ⟨by decide, dk_cs (σ 25 3, nI t) rfl rfl rfl ⟨t, by omega, rfl⟩ (fun r1 σ1 hq1 => ?_)⟩
          obtain ⟨hσ1, hr1⟩ := hq1
          rw [hσ1]
          have hr1 : r1 = if bt (σ 25 3) t = true then 1 else 0 := hr1 t (by omega) rfl
          refine ⟨fun h => at93 1 (Or.inl ⟨rfl, Or.inl (fun q => ?_)⟩), fun h => ?_⟩
          · have h : r1 = 0 := h
            rw [hr1, if_pos q] at h
            exact absurd h i32_ne10
          · have h : ¬ r1 = 0 := h
            have hrt : bt (σ 25 3) t = true := by
              apply Classical.byContradiction
              intro q
              rw [hr1, if_neg q] at h
              exact h rfl
            refine dk_cs (σ 25 4, nI t) rfl rfl rfl ⟨t, by omega, rfl⟩ (fun r2 σ2 hq2 => ?_)
            obtain ⟨hσ2, hr2⟩ := hq2
            rw [hσ2]
            have hr2 : r2 = if bt (σ 25 4) t = true then 1 else 0 := hr2 t (by omega) rfl
            refine ⟨fun h2 => at93 1 (Or.inl ⟨rfl, Or.inr (Or.inl ?_)⟩), fun h2 => ⟨30, rfl, hit, fun h3 => at93 0 (Or.inr ⟨rfl, ?_⟩), fun h3 => at93 1 (Or.inl ⟨rfl, Or.inr (Or.inr ?_)⟩)⟩⟩
            · have h2 : ¬ r2 = 0 := h2
              apply Classical.byContradiction
              intro q
              rw [hr2, if_neg q] at h2
              exact h2 rfl
            · have h3 : ¬ σ 8 (nI t).toNatClampNeg &&& (σ 25 5 ^^^ (-1)) = 0 := h3
              have h2 : ¬ ¬ r2 = 0 := h2
              rw [et] at h3
              rintro (q | q | q)
              · exact q hrt
              · exact h2 (by rw [hr2, if_pos q]; exact i32_ne10)
              · exact h3 q
            · have h3 : ¬ ¬ σ 8 (nI t).toNatClampNeg &&& (σ 25 5 ^^^ (-1)) = 0 := h3
              rw [et] at h3
              exact Classical.not_not.mp h3
        refine hC.go (fun q => if q = 48 then some 4 else none) 60 ?_
        refine ⟨fun h => ?_, fun _ => ⟨30, rfl, hit, by decide, fun h => at48, fun h => ⟨30, rfl, hit, ?_⟩⟩⟩
        · exfalso
          have h : nI 30 ≤ nI t := h
          rw [nI_leI (by omega) (by omega)] at h
          omega
        · have h : ¬ σ 26 (nI t).toNatClampNeg = -1 := h
          obtain ⟨w, hw, e1, e2⟩ : ∃ w, w < 16 ∧ σ 26 (nI t).toNatClampNeg = nI w ∧ bt (σ 8 (nI t).toNatClampNeg) w = true := by
            rw [et] at h ⊢
            exact (hwt t (by omega)).resolve_left h
          refine dk_cs (σ 8 (nI t).toNatClampNeg, σ 26 (nI t).toNatClampNeg) rfl rfl rfl ⟨w, by omega, e1⟩ (fun r1 σ1 hq1 => ?_)
          obtain ⟨hσ1, hr1⟩ := hq1
          rw [hσ1]
          have hr1 : r1 = if bt (σ 8 (nI t).toNatClampNeg) w = true then 1 else 0 := hr1 w (by omega) e1
          rw [if_pos e2] at hr1
          subst hr1
          exact ⟨fun _ => at48, fun q => absurd i32_ne10 q⟩
    refine hC.go (fun q => if q = 12 then some 3 else none) 60 ?_
    exact ⟨by decide, loop 30 0 (by omega) (fun s hs => by omega)⟩
  refine hC.go (fun q => if q = 10 then some 2 else none) 60 ?_
  exact ⟨fun h => main h, fun h => ⟨Or.inl rfl, rfl, Or.inr ⟨rfl, fun q => h q.1⟩⟩⟩
abbrev sp_coverSize : dk_M := dk_sp 1 true (fun _ : Unit => [.inr 25]) (fun _ _ => True) (fun _ σ r σ' => σ' = σ ∧ r = nI (pop (σ 25 4)) + nI (pop (σ 25 5)))
set_option maxRecDepth 100000 in
theorem q_coverSize : dk_pure (kX3_coverSize, fX3, [], [(69, sp_bitCount)], nX3, 1, false) sp_coverSize := by
  refine dk_sp_pure (fun _ _ _ => rfl) (fun _ => rfl) ?_
  rintro OK _ σ _ hC
  refine hC.go (fun _ => none) 60 ?_
  refine dk_cs (σ 25 4) rfl rfl rfl trivial (fun r1 σ1 hq1 => ?_)
  obtain ⟨hσ1, hr1⟩ := hq1
  rw [hσ1]
  refine dk_cs (σ 25 5) rfl rfl rfl trivial (fun r2 σ2 hq2 => ?_)
  obtain ⟨hσ2, hr2⟩ := hq2
  rw [hσ2]
  have hr1 : r1 = nI (pop (σ 25 4)) := hr1
  have hr2 : r2 = nI (pop (σ 25 5)) := hr2
  rw [hr1, hr2]
  exact ⟨rfl, rfl⟩
