/-! raiseAll, lowerOnce, lowerAll -/
theorem bf_pass_bg {a : Nat → Bool} {u v : Nat → Nat} {g : Nat → Int} {m : Nat} (hu : ∀ c, c < m → u c < 31) (hg : ∀ c, c < m → -1000 ≤ g c ∧ g c ≤ 1000) {B : Int} {x : Nat → Int} (hx : ∀ j, j < 31 → -B ≤ x j ∧ x j ≤ B) : ∀ c, c ≤ m → ∀ j, j < 31 → -B ≤ bf_pass a u v g c x j ∧ bf_pass a u v g c x j ≤ B + 1000 * c := by
  intro c
  induction c with
  | zero => intro _ j hj; have := hx j hj; simp only [bf_pass]; omega
  | succ c ih =>
    intro hc j hj
    have ih := ih (by omega)
    simp only [bf_pass]
    have h1 := hu c (by omega)
    have h2 := hg c (by omega)
    have h3 := ih _ h1
    have h4 := ih j hj
    generalize hy : bf_pass a u v g c x = y at *
    unfold bf_one
    split
    · dsimp only
      split
      · next e => rename_i hlt; subst e; omega
      · omega
    · omega
theorem NW.up {σ : dk_S} {s : Nat} {f : Nat → Int32} (h : NW σ) (hs : 6 < s) : NW (dk_up σ s f) := by
  unfold NW at h ⊢
  rw [dk_up_ne (show ¬ 1 = s by omega), dk_up_ne (show ¬ 2 = s by omega), dk_up_ne (show ¬ 3 = s by omega), dk_up_ne (show ¬ 4 = s by omega), dk_up_ne (show ¬ 5 = s by omega), dk_up_ne (show ¬ 6 = s by omega)]
  exact h
section NUP
variable {σ : dk_S} {s : Nat} {f : Nat → Int32} (hs : 6 < s)
theorem aC_up : 6 < s → aC (dk_up σ s f) = aC σ := fun hs => by unfold aC; rw [dk_up_ne (show ¬ 6 = s by omega)]
theorem uC_up : 6 < s → uC (dk_up σ s f) = uC σ := fun hs => by unfold uC; rw [dk_up_ne (show ¬ 3 = s by omega)]
theorem vC_up : 6 < s → vC (dk_up σ s f) = vC σ := fun hs => by unfold vC; rw [dk_up_ne (show ¬ 4 = s by omega)]
theorem gC_up : 6 < s → gC (dk_up σ s f) = gC σ := fun hs => by unfold gC; rw [dk_up_ne (show ¬ 5 = s by omega)]
theorem dC_up : 6 < s → dC (dk_up σ s f) = dC σ := fun hs => by unfold dC; rw [dk_up_ne (show ¬ 2 = s by omega)]
theorem mC_up : 6 < s → mC (dk_up σ s f) = mC σ := fun hs => by unfold mC; rw [dk_up_ne (show ¬ 1 = s by omega)]
theorem nC_up : 6 < s → nC (dk_up σ s f) = nC σ := fun hs => by unfold nC; rw [dk_up_ne (show ¬ 1 = s by omega)]
end NUP
/-- the least solution not below x0 -/
def bf_ls (a : Nat → Bool) (u v : Nat → Nat) (g : Nat → Int) (m : Nat) (x0 x : Nat → Int) : Prop := bf_sol a u v g m x ∧ (∀ j, x0 j ≤ x j) ∧ ∀ z, bf_sol a u v g m z → (∀ j, x0 j ≤ z j) → ∀ j, x j ≤ z j
theorem bf_iter_ls {a : Nat → Bool} {u v : Nat → Nat} {g : Nat → Int} {m k : Nat} {x0 : Nat → Int} (h : bf_sol a u v g m (bf_iter a u v g m k x0)) : bf_ls a u v g m x0 (bf_iter a u v g m k x0) :=
  ⟨h, fun j => bf_iter_ge x0 k j, fun _ hz hx j => bf_iter_le hx hz k j⟩
abbrev sp_raiseAll : dk_M := dk_sp 2 true (fun s : Nat => [.inr 1, .inr s]) (fun s σ => (dk_arr s = some (false, 31) ∧ 6 < s) ∧ NW σ ∧ bd 10000000 (σ s) ∧ (σ s 30).toInt ≤ 0)
  (fun s σ r σ' => ∃ f, σ' = dk_up σ s f ∧ (∀ B : Int, B ≤ 10000000 → bd B (σ s) → bd (B + 4000000) f) ∧ (∀ j, toI (σ s) j ≤ toI f j) ∧ ((r = 1 ∧ bf_ls (aC σ) (uC σ) (vC σ) (gC σ) (mC σ) (toI (σ s)) (toI f) ∧ (f 30).toInt ≤ 0) ∨ (r = 0 ∧ ¬ ∃ z, bf_sol (aC σ) (uC σ) (vC σ) (gC σ) (mC σ) z ∧ (∀ j, toI (σ s) j ≤ z j) ∧ z 30 ≤ 0)))
set_option maxRecDepth 100000 in
set_option maxHeartbeats 1000000 in
theorem q_raiseAll : dk_pure (kX4_raiseAll, fX4, [(46, sp_raiseOnce)], [], [], 3, true) sp_raiseAll := by
  refine dk_sp_pure (fun x x' e => by cases e; rfl) (fun _ => rfl) ?_
  intro OK s σ hpre hC
  obtain ⟨⟨hs, hs6⟩, hN, hB, h30⟩ := hpre
  have hm := hN.m120
  have hNN : ∀ c, c < mC σ → aC σ c = true → uC σ c < 31 ∧ vC σ c < 31 := fun c hc _ => ⟨(hN.u hc).2.2, (hN.v hc).2.2⟩
  have loop : ∀ (d k : Nat) (f : Nat → Int32), k + d = 32 → toI f = bf_iter (aC σ) (uC σ) (vC σ) (gC σ) (mC σ) k (toI (σ s)) → (∀ B : Int, B ≤ 10000000 → bd B (σ s) → bd (B + 120000 * k) f) → (f 30).toInt ≤ 0 → (∀ i, i + 1 = k → ¬ bf_iter (aC σ) (uC σ) (vC σ) (gC σ) (mC σ) (i + 1) (toI (σ s)) = bf_iter (aC σ) (uC σ) (vC σ) (gC σ) (mC σ) i (toI (σ s))) → OK 2 [(0, .inr 1), (1, .inr s), (2, .inl (nI k))] [] (dk_up σ s f) := by
    intro d
    induction d with
    | zero =>
      intro k f hk hf hb h0 hne
      refine hC.go (fun q => if q = 2 then some 3 else none) 60 ?_
      refine ⟨fun h => ⟨Or.inl rfl, f, rfl, ?_, ?_, Or.inr ⟨rfl, ?_⟩⟩, fun h => ?_⟩
      · intro B hB1 hB2 j hj
        have := hb B hB1 hB2 j hj
        omega
      · intro j
        rw [hf]
        exact bf_iter_ge _ _ _
      · rintro ⟨z, hz1, hz2, -⟩
        exact hne 31 (by omega) (bf_sol_stable (bf_conv hNN ⟨z, hz1, hz2⟩))
      · exfalso
        apply h
        show (31 : Int32) < nI k
        rw [dk_lt, nI_toInt (by omega), show ((31 : Int32).toInt) = 31 from rfl]
        omega
    | succ d ih =>
      intro k f hk hf hb h0 hne
      have hbb : bd 100000000 (dk_up σ s f s) := fun j hj => by
 
        rw [dk_up_self]
        have := hb 10000000 (Int.le_refl _) hB j hj
        omega
      have hN' : NW (dk_up σ s f) := hN.up hs6
      have hge : ∀ j, toI (σ s) j ≤ toI f j := fun j => by rw [hf]; exact bf_iter_ge _ _ _
      refine hC.go (fun q => if q = 2 then some 3 else none) 60 ?_
      refine ⟨fun h => ?_, fun h => ?_⟩
      · exfalso
        have h : (31 : Int32) < nI k := h
        rw [dk_lt, nI_toInt (by omega), show ((31 : Int32).toInt) = 31 from rfl] at h
        omega
      refine dk_cs s rfl rfl rfl ⟨⟨hs, hs6⟩, hN', hbb⟩ (fun r σ' hq => ?_)
      obtain ⟨f', rfl, hf', hr⟩ := hq
      rw [aC_up hs6, uC_up hs6, vC_up hs6, gC_up hs6, mC_up hs6, dk_up_self, hf] at hf'
      have hbf : ∀ B : Int, B ≤ 10000000 → bd B (σ s) → bd (B + 120000 * (k + 1 : Nat)) f' := fun B hB1 hB2 j hj => by
        have := bf_pass_bg (a := aC σ) (u := uC σ) (v := vC σ) (g := gC σ) (m := mC σ) (fun c hc => (hN.u hc).2.2) (fun c hc => hN.g hc) (hb B hB1 hB2) (mC σ) (Nat.le_refl _) j hj
        have e : toI f' j = bf_pass (aC σ) (uC σ) (vC σ) (gC σ) (mC σ) (toI f) j := by rw [hf', hf]
        have e2 : (f' j).toInt = bf_pass (aC σ) (uC σ) (vC σ) (gC σ) (mC σ) (toI f) j := e
        have e3 : (fun j => (f j).toInt) = toI f := rfl
        rw [e3] at this
        rw [e2]
        omega
      rw [dk_up_self] at hr
      rw [dk_up_up]
      refine ⟨fun h2 => ?_, fun h2 => ⟨Or.inr rfl, ?_⟩⟩
      · have h2 : ¬ r = 0 := h2
        rcases hr with ⟨h3, -⟩ | ⟨h3, h4⟩
        · exact absurd h3 h2
        · refine ⟨31, hs, vp_in_nI (show 30 < 31 by omega) (by omega), fun h5 => ?_, fun h5 => ⟨Or.inl rfl, f', rfl, ?_, ?_, Or.inr ⟨rfl, ?_⟩⟩⟩
          · have h5 : dk_up σ s f' s 30 ≤ 0 := h5
            rw [dk_up_self, dk_le] at h5
            refine ⟨by decide, ?_⟩
            have := ih (k + 1) f' (by omega) hf' hbf h5 (fun i hi e => h4 ?_)
            · rw [← nI_1] at this
              exact this
            · have : i = k := by omega
              subst this
              funext j
              apply dk_eq.mpr
              have e2 : toI f' = toI f := by rw [hf', hf]; exact e
              exact congrFun e2 j
          · intro B hB1 hB2 j hj
            have := hbf B hB1 hB2 j hj
            omega
          · intro j
            have h6 := hge j
            have h7 : toI f' j = bf_pass (aC σ) (uC σ) (vC σ) (gC σ) (mC σ) (toI f) j := by rw [hf', hf]
            have h8 := bf_pass_ge (a := aC σ) (u := uC σ) (v := vC σ) (g := gC σ) (toI f) (mC σ) j
            omega
          · rintro ⟨z, hz1, hz2, hz3⟩
            have h5 : ¬ dk_up σ s f' s 30 ≤ 0 := h5
            rw [dk_up_self, dk_le] at h5
            have h6 := bf_iter_le hz2 hz1 (k + 1) 30
            have h7 : toI f' 30 = bf_iter (aC σ) (uC σ) (vC σ) (gC σ) (mC σ) (k + 1) (toI (σ s)) 30 := by rw [hf']; rfl
            unfold toI at h7
            have h8 : (0 : Int32).toInt = 0 := rfl
            unfold toI at h6
            omega
      · have h2 : ¬ ¬ r = 0 := h2
        have h2 := Classical.not_not.mp h2
        rcases hr with ⟨-, h4⟩ | ⟨h3, -⟩
        · subst h4
          refine ⟨f', rfl, ?_, hge, Or.inl ⟨rfl, ?_, h0⟩⟩
          · intro B hB1 hB2 j hj
            have := hb B hB1 hB2 j hj
            omega
          · rw [hf]
            exact bf_iter_ls (bf_stable (by rw [← hf', hf]))
        · rw [h3] at h2; exact absurd h2 (by decide)
  refine hC.go (fun q => if q = 2 then some 3 else none) 60 ?_
  refine ⟨by decide, ?_⟩
  have := loop 32 0 (σ s) (by omega) rfl (fun B _ hB2 j hj => by have := hB2 j hj; omega) h30 (fun i hi => by omega)
  rw [dk_up_id] at this
  exact this
abbrev sp_lowerOnce : dk_M := dk_sp 2 true (fun s : Nat => [.inr 1, .inr s]) (fun s σ => (dk_arr s = some (false, 31) ∧ 6 < s) ∧ NW σ ∧ bd 100000000 (σ s))
  (fun s σ r σ' => ∃ f, σ' = dk_up σ s f ∧ (fun j => -toI f j) = bf_pass (aC σ) (vC σ) (uC σ) (gC σ) (mC σ) (fun j => -toI (σ s) j) ∧ ((r = 0 ∧ f = σ s) ∨ (r = 1 ∧ ¬ f = σ s)))
set_option maxRecDepth 100000 in
set_option maxHeartbeats 1000000 in
theorem q_lowerOnce : dk_pure (kX4_lowerOnce, fX4, [], [], [], 5, true) sp_lowerOnce := by
  refine dk_sp_pure (fun x x' e => by cases e; rfl) (fun _ => rfl) ?_
  intro OK s σ hpre hC
  obtain ⟨⟨hs, hs6⟩, hN, hB⟩ := hpre
  have hm := hN.m120
  have up : ∀ (f : Nat → Int32) (q : Nat), q ≤ 6 → dk_up σ s f q = σ q := fun f q h => dk_up_ne (by omega)
  have loop : ∀ (d c : Nat) (r : Int32) (f : Nat → Int32), c + d = mC σ → (fun j => -toI f j) = bf_pass (aC σ) (vC σ) (uC σ) (gC σ) c (fun j => -toI (σ s) j) → ((r = 0 ∧ f = σ s) ∨ (r = 1 ∧ ∃ j, (f j).toInt < (σ s j).toInt)) → OK 4 [(0, .inr 1), (1, .inr s), (2, .inl r), (3, .inl (nI c))] [] (dk_up σ s f) := by
    intro d
    induction d with
    | zero =>
      intro c r f hcd hf hr
      have hcm : c = mC σ := by omega
      refine hC.go (fun q => if q = 4 then some 4 else none) 60 ?_
      refine ⟨fun _ => ⟨?_, f, rfl, by rw [← hcm]; exact hf, ?_⟩, fun h => ?_⟩
      · rcases hr with ⟨h, -⟩ | ⟨h, -⟩
        · exact Or.inl h
        · exact Or.inr h
      · rcases hr with ⟨h1, h2⟩ | ⟨h1, j, h2⟩
        · exact Or.inl ⟨h1, h2⟩
        · exact Or.inr ⟨h1, fun e => by rw [e] at h2; omega⟩
      · exfalso
        apply h
        show dk_up σ s f 1 1 ≤ nI c
        rw [up f 1 (by omega), hN.m, hcm]
        exact Int32.le_refl _
    | succ d ih =>
      intro c r f hcd hf hr
      have hcm : c < mC σ := by omega
      have ec : (nI c).toNatClampNeg = c := nI_clamp (by omega)
      obtain ⟨hu1, hu2, hu3⟩ := hN.u hcm
      obtain ⟨hv1, hv2, hv3⟩ := hN.v hcm
      have hg := hN.g hcm
      have hic : vp_in (nI c) 120 := vp_in_nI (by omega) (by omega)
      have hbd := bf_pass_bg (a := aC σ) (u := vC σ) (v := uC σ) (g := gC σ) (m := mC σ) (fun c hc => (hN.v hc).2.2) (fun c hc => hN.g hc) (x := fun j => -toI (σ s) j) (B := 100000000) (fun j hj => by have := hB j hj; unfold toI; omega) c (by omega)
      rw [← hf] at hbd
      have hadd : (f (vC σ c) - σ 5 c).toInt = (f (vC σ c)).toInt - gC σ c := by
        have := hbd _ hv3
        unfold toI at this
        dsimp only at this
        exact dk_sub (by unfold gC at hg; omega) (by unfold gC at hg; omega)
      have hnext : ∀ r' f', (fun j => -toI f' j) = bf_pass (aC σ) (vC σ) (uC σ) (gC σ) (c + 1) (fun j => -toI (σ s) j) → ((r' = 0 ∧ f' = σ s) ∨ (r' = 1 ∧ ∃ j, (f' j).toInt < (σ s j).toInt)) → OK 4 [(0, .inr 1), (1, .inr s), (2, .inl r'), (3, .inl (nI c + 1))] [] (dk_up σ s f') := by
        intro r' f' h1 h2
        rw [nI_1]
        exact ih (c + 1) r' f' (by omega) h1 h2
      have hpass : bf_pass (aC σ) (vC σ) (uC σ) (gC σ) (c + 1) (fun j => -toI (σ s) j) = bf_one (aC σ) (vC σ) (uC σ) (gC σ) (fun j => -toI f j) c := by
        rw [hf]; rfl
      refine hC.go (fun q => if q = 4 then some 4 else none) 60 ?_
      refine ⟨fun h => ?_, fun h => ⟨120, rfl, hic, 31, hs, ?_, 120, rfl, hic, ?_, 120, rfl, hic, fun h2 => ?_, fun h2 => ⟨120, rfl, hic, 31, hs, ?_, fun h3 => ?_, fun h3 => ⟨120, rfl, hic, 31, hs, ?_, ?_, ?_⟩⟩⟩⟩
      · exfalso
        have h : dk_up σ s f 1 1 ≤ nI c := h
        rw [up f 1 (by omega), hN.m] at h
        exact nI_ge hcm (by omega) h
      · rw [ec, up f 4 (by omega), hv1]; exact vp_in_nI hv3 (by omega)
      · exact Nat.lt_succ_self 4
      · have h2 : ¬ dk_up σ s f 6 (nI c).toNatClampNeg = 0 := h2
        rw [ec, up f 6 (by omega)] at h2
        refine ⟨by decide, hnext r f ?_ hr⟩
        rw [hpass]
        unfold bf_one aC
        rw [if_neg]
        intro q
        exact h2 (of_decide_eq_true q.1)
      · rw [ec, up f 3 (by omega), hu1]; exact vp_in_nI hu3 (by omega)
      · have h3 : dk_up σ s f s (dk_up σ s f 3 (nI c).toNatClampNeg).toNatClampNeg ≤ dk_up σ s f s (dk_up σ s f 4 (nI c).toNatClampNeg).toNatClampNeg - dk_up σ s f 5 (nI c).toNatClampNeg := h3
        rw [ec, up f 3 (by omega), up f 4 (by omega), up f 5 (by omega), dk_up_self] at h3
        have h3 : f (uC σ c) ≤ f (vC σ c) - σ 5 c := h3
        rw [dk_le, hadd] at h3
        refine ⟨by decide, hnext r f ?_ hr⟩
        rw [hpass]
        unfold bf_one
        rw [if_neg]
        rintro ⟨-, q⟩
        unfold toI at q
        dsimp only at q
        omega
      · rw [ec, up f 3 (by omega), hu1]; exact vp_in_nI hu3 (by omega)
      · exact Nat.lt_of_sub_eq_succ rfl
      · have h3 : ¬ dk_up σ s f s (dk_up σ s f 3 (nI c).toNatClampNeg).toNatClampNeg ≤ dk_up σ s f s (dk_up σ s f 4 (nI c).toNatClampNeg).toNatClampNeg - dk_up σ s f 5 (nI c).toNatClampNeg := h3
        have h2 : ¬ ¬ dk_up σ s f 6 (nI c).toNatClampNeg = 0 := h2
        rw [ec, up f 6 (by omega)] at h2
        refine ⟨by decide, ?_⟩
        show OK 4 [(0, .inr 1), (1, .inr s), (2, .inl 1), (3, .inl (nI c + 1))] [] (dk_up (dk_up σ s f) s (upd (dk_up σ s f s) (dk_up σ s f 3 (nI c).toNatClampNeg).toNatClampNeg (dk_up σ s f s (dk_up σ s f 4 (nI c).toNatClampNeg).toNatClampNeg - dk_up σ s f 5 (nI c).toNatClampNeg)))
        rw [ec, up f 3 (by omega), up f 4 (by omega), up f 5 (by omega), dk_up_self] at h3 ⊢
        rw [dk_up_up]
        have h3 : ¬ f (uC σ c) ≤ f (vC σ c) - σ 5 c := h3
        rw [dk_le, hadd] at h3
        refine hnext 1 (upd f (uC σ c) (f (vC σ c) - σ 5 c)) ?_ (Or.inr ⟨rfl, uC σ c, ?_⟩)
        · rw [hpass]
          unfold bf_one
          rw [if_pos ⟨decide_eq_true (Classical.not_not.mp h2), by unfold toI; dsimp only; omega⟩]
          funext j
          unfold toI upd
          dsimp only
          split
          · rw [hadd]; omega
          · rfl
        · have hge := bf_pass_ge (a := aC σ) (u := vC σ) (v := uC σ) (g := gC σ) (fun j => -toI (σ s) j) c (uC σ c)
          rw [← hf] at hge
          unfold toI at hge
          dsimp only at hge
          have e1 : upd f (uC σ c) (f (vC σ c) - σ 5 c) (uC σ c) = f (vC σ c) - σ 5 c := by simp [upd]
          rw [e1, hadd]
          omega
  refine hC.go (fun q => if q = 4 then some 4 else none) 60 ?_
  refine ⟨by decide, by decide, ?_⟩
  have := loop (mC σ) 0 0 (σ s) (by omega) rfl (Or.inl ⟨rfl, rfl⟩)
  rw [dk_up_id] at this
  exact this
abbrev sp_lowerAll : dk_M := dk_sp 2 false (fun s : Nat => [.inr 1, .inr s]) (fun s σ => (dk_arr s = some (false, 31) ∧ 6 < s) ∧ NW σ ∧ bd 10000000 (σ s) ∧ ∃ z, bf_sol (aC σ) (uC σ) (vC σ) (gC σ) (mC σ) z ∧ ∀ j, z j ≤ toI (σ s) j)
  (fun s σ _ σ' => ∃ f, σ' = dk_up σ s f ∧ bf_ls (aC σ) (vC σ) (uC σ) (gC σ) (mC σ) (fun j => -toI (σ s) j) (fun j => -toI f j))
set_option maxRecDepth 100000 in
set_option maxHeartbeats 1000000 in
theorem q_lowerAll : dk_pure (kX4_lowerAll, fX4, [(50, sp_lowerOnce)], [], [], 4, false) sp_lowerAll := by
  refine dk_sp_pure (fun x x' e => by cases e; rfl) (fun _ => rfl) ?_
  intro OK s σ hpre hC
  obtain ⟨⟨hs, hs6⟩, hN, hB, z, hz1, hz2⟩ := hpre
  have hm := hN.m120
  have hNN : ∀ c, c < mC σ → aC σ c = true → vC σ c < 31 ∧ uC σ c < 31 := fun c hc _ => ⟨(hN.v hc).2.2, (hN.u hc).2.2⟩
  have hconv : bf_sol (aC σ) (vC σ) (uC σ) (gC σ) (mC σ) (bf_iter (aC σ) (vC σ) (uC σ) (gC σ) (mC σ) 31 (fun j => -toI (σ s) j)) := bf_conv hNN ⟨fun j => -z j, fun c hc ha => by have := hz1 c hc ha; dsimp only; omega, fun j => by have := hz2 j; dsimp only; omega⟩
  have hB0 : ∀ j, j < 31 → -(10000000 : Int) ≤ (fun j => -toI (σ s) j) j ∧ (fun j => -toI (σ s) j) j ≤ 10000000 := fun j hj => by
    have := hB j hj
    unfold toI
    dsimp only
    omega
  have hbd : ∀ k : Nat, ∀ j, j < 31 → -(10000000 + 120000 * (k : Int)) ≤ bf_iter (aC σ) (vC σ) (uC σ) (gC σ) (mC σ) k (fun j => -toI (σ s) j) j ∧ bf_iter (aC σ) (vC σ) (uC σ) (gC σ) (mC σ) k (fun j => -toI (σ s) j) j ≤ 10000000 + 120000 * k := by
    intro k
    induction k with
    | zero => intro j hj; have := hB0 j hj; dsimp only at this; simp only [bf_iter]; omega
    | succ k ih =>
      intro j hj
      have := bf_pass_bg (a := aC σ) (u := vC σ) (v := uC σ) (g := gC σ) (m := mC σ) (fun c hc => (hN.v hc).2.2) (fun c hc => hN.g hc) ih (mC σ) (Nat.le_refl _) j hj
      simp only [bf_iter]
      omega
  have loop : ∀ (d k : Nat) (r : Int32) (f : Nat → Int32), k + d = 32 → (fun j => -toI f j) = bf_iter (aC σ) (vC σ) (uC σ) (gC σ) (mC σ) k (fun j => -toI (σ s) j) → ((r = 0 ∧ bf_sol (aC σ) (vC σ) (uC σ) (gC σ) (mC σ) (fun j => -toI f j)) ∨ r = 1) → OK 4 [(0, .inr 1), (1, .inr s), (2, .inl r), (3, .inl (nI k))] [] (dk_up σ s f) := by
    intro d
    induction d with
    | zero =>
      intro k r f hk hf hr
      have hk : k = 32 := by omega
      subst hk
      refine hC.go (fun q => if q = 4 then some 4 else none) 60 ?_
      refine ⟨fun h => ⟨f, rfl, ?_⟩, fun h => ?_⟩
      · rw [hf]
        refine bf_iter_ls ?_
        have e : bf_iter (aC σ) (vC σ) (uC σ) (gC σ) (mC σ) 32 (fun j => -toI (σ s) j) = bf_iter (aC σ) (vC σ) (uC σ) (gC σ) (mC σ) 31 (fun j => -toI (σ s) j) := bf_sol_stable hconv
        rw [e]
        exact hconv
      · exact absurd (show (31 : Int32) < nI 32 by decide) h
    | succ d ih =>
      intro k r f hk hf hr
      refine hC.go (fun q => if q = 4 then some 4 else none) 60 ?_
      refine ⟨fun h => ?_, fun h => ⟨fun h2 => ?_, fun h2 => ?_⟩⟩
      · exfalso
        have h : (31 : Int32) < nI k := h
        rw [dk_lt, nI_toInt (by omega), show ((31 : Int32).toInt) = 31 from rfl] at h
        omega
      · have h2 : r = 0 := h2
        rcases hr with ⟨-, hr⟩ | hr
        · refine ⟨f, rfl, ?_⟩
          rw [hf] at hr ⊢
          exact bf_iter_ls hr
        · rw [hr] at h2; exact absurd h2 (by decide)
      · have hbb : bd 100000000 (dk_up σ s f s) := fun j hj => by
          rw [dk_up_self]
          have := hbd k j hj
          rw [← hf] at this
          unfold toI at this
          dsimp only at this
          omega
        refine dk_cs s rfl rfl rfl ⟨⟨hs, hs6⟩, hN.up hs6, hbb⟩ (fun r' σ' hq => ?_)
        obtain ⟨f', rfl, hf', hr'⟩ := hq
        rw [aC_up hs6, uC_up hs6, vC_up hs6, gC_up hs6, mC_up hs6, dk_up_self, hf] at hf'
        rw [dk_up_self] at hr'
        rw [dk_up_up]
        refine ⟨by decide, by decide, ?_⟩
        have := ih (k + 1) r' f' (by omega) hf' ?_
        · rw [← nI_1] at this
          exact this
        · rcases hr' with ⟨h3, h4⟩ | ⟨h3, -⟩
          · left
            refine ⟨h3, ?_⟩
            subst h4
            exact bf_stable (by rw [hf]; exact hf'.symm.trans hf)
          · exact Or.inr h3
  refine hC.go (fun q => if q = 4 then some 4 else none) 60 ?_
  refine ⟨by decide, by decide, ?_⟩
  have := loop 32 0 1 (σ s) (by omega) rfl (Or.inr rfl)
  rw [dk_up_id] at this
  exact this
