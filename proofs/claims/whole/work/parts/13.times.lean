/-! Arrays.fill, Math.max and min, and the class's Times -/
theorem dk_arr_len0 : ∀ k, k < 81 → (match dk_arr k with | some (_, n) => Nat.ble n 30752 | none => true) = true := by decide +kernel
theorem dk_arr_len {k N : Nat} {b : Bool} (h : dk_arr k = some (b, N)) : N ≤ 30752 := by
  have := dk_arr_len0 k (dk_arr_lt h)
  rw [h] at this
  exact Nat.le_of_ble_eq_true this
abbrev sp_fill : dk_M := dk_sp 2 false (fun x : Nat × Int32 => [.inr x.1, .inl x.2]) (fun x _ => ∃ N, dk_arr x.1 = some (false, N)) (fun x σ _ σ' => ∀ N, dk_arr x.1 = some (false, N) → σ' = dk_up σ x.1 (fun j => if j < N then x.2 else σ x.1 j))
set_option maxRecDepth 100000 in
theorem q_fill : dk_pure (kJ7_fill_53178, [], [], [], [], 4, false) sp_fill := by
  refine dk_sp_pure (fun x x' e => by obtain ⟨a, b⟩ := x; obtain ⟨c, d⟩ := x'; cases e; rfl) (fun _ => rfl) ?_
  rintro OK ⟨k, v⟩ σ ⟨N, hN⟩ hC
  have hl := dk_arr_len hN
  have loop : ∀ (d i : Nat), i + d = N → OK 5 [(0, .inr k), (1, .inl v), (2, .inl (nI i)), (3, .inl (nI N))] [] (dk_up σ k (fun j => if j < i then v else σ k j)) := by
    intro d
    induction d with
    | zero =>
      intro i hi
      have hi : i = N := by omega
      subst hi
      refine hC.go (fun q => if q = 5 then some 4 else none) 60 ?_
      refine ⟨fun h N' hN' => ?_, fun h => absurd (Int32.le_refl _) h⟩
      have hN' : dk_arr k = some (false, N') := hN'
      rw [hN] at hN'
      cases hN'
      rfl
    | succ d ih =>
      intro i hi
      refine hC.go (fun q => if q = 5 then some 4 else none) 60 ?_
      refine ⟨fun h => ?_, fun h => ⟨N, hN, vp_in_nI (by omega) (by omega), ?_⟩⟩
      · have h : nI N ≤ nI i := h
        exact absurd h (nI_ge (by omega) (by omega))
      · refine ⟨by decide, ?_⟩
        have := ih (i + 1) (by omega)
        rw [← nI_1] at this
        have e : dk_up (dk_up σ k (fun j => if j < i then v else σ k j)) k (upd (dk_up σ k (fun j => if j < i then v else σ k j) k) (nI i).toNatClampNeg v) = dk_up σ k (fun j => if j < i + 1 then v else σ k j) := by
          rw [dk_up_up, dk_up_self, nI_clamp (by omega)]
          congr 1
          funext j
          unfold upd
          by_cases h1 : j = i
          · rw [if_pos h1, if_pos (by omega)]
          · rw [if_neg h1]
            dsimp only
            by_cases h2 : j < i
            · rw [if_pos h2, if_pos (by omega)]
            · rw [if_neg h2, if_neg (by omega)]
        rw [← e] at this
        exact this
  refine hC.go (fun q => if q = 5 then some 4 else none) 60 ?_
  refine ⟨by decide, false, N, hN, by decide, ?_⟩
  have := loop N 0 (by omega)
  have e : dk_up σ k (fun j => if j < 0 then v else σ k j) = σ := by
    have : (fun j => if j < 0 then v else σ k j) = σ k := by funext j; rw [if_neg (by omega)]
    rw [this, dk_up_id]
  rw [e] at this
  exact this
abbrev sp_max : dk_M := dk_sp 2 true (fun x : Int32 × Int32 => [.inl x.1, .inl x.2]) (fun _ _ => True) (fun x σ r σ' => σ' = σ ∧ r = if x.1 < x.2 then x.2 else x.1)
abbrev sp_min : dk_M := dk_sp 2 true (fun x : Int32 × Int32 => [.inl x.1, .inl x.2]) (fun _ _ => True) (fun x σ r σ' => σ' = σ ∧ r = if x.2 < x.1 then x.2 else x.1)
/-- the greatest end of the first so many tasks, not below 0 -/
def pl_len (d x : Nat → Int) : Nat → Int
  | 0 => 0
  | t + 1 => if pl_len d x t < x t + d t then x t + d t else pl_len d x t
theorem pl_len_ge (d x : Nat → Int) : ∀ {n t : Nat}, t < n → x t + d t ≤ pl_len d x n := by
  intro n
  induction n with
  | zero => intro t h; omega
  | succ n ih =>
    intro t h
    simp only [pl_len]
    by_cases e : t = n
    · subst e; split <;> omega
    · have := ih (show t < n by omega)
      split <;> omega
theorem pl_len_le {d x : Nat → Int} {B : Int} (h0 : 0 ≤ B) : ∀ {n : Nat}, (∀ t, t < n → x t + d t ≤ B) → 0 ≤ pl_len d x n ∧ pl_len d x n ≤ B := by
  intro n
  induction n with
  | zero => intro _; exact ⟨Int.le_refl _, h0⟩
  | succ n ih =>
    intro h
    have h1 := ih (fun t ht => h t (by omega))
    have h2 := h n (by omega)
    simp only [pl_len]
    split <;> omega
theorem pl_len_congr {d d' x x' : Nat → Int} : ∀ {n : Nat}, (∀ t, t < n → d t = d' t ∧ x t = x' t) → pl_len d x n = pl_len d' x' n := by
  intro n
  induction n with
  | zero => intro _; rfl
  | succ n ih =>
    intro h
    have h1 := ih (fun t ht => h t (by omega))
    have h2 := h n (by omega)
    simp only [pl_len]
    rw [h1, h2.1, h2.2]
abbrev sp_ffe : dk_M := dk_sp 1 true (fun T : Nat => [.inr T]) (fun T σ => (T = 9 ∨ T = 12) ∧ NW σ ∧ bd 10000000 (σ (T + 1)) ∧ (σ (T + 1) 30).toInt ≤ 0 ∧ ∀ t, t < 30 → 0 ≤ (σ (T + 1) t).toInt)
  (fun T σ r σ' => ∃ c f, σ' = dk_up (dk_up σ T c) (T + 1) f ∧ c 1 = σ 1 0 ∧ (∀ B : Int, B ≤ 10000000 → bd B (σ (T + 1)) → bd (B + 4000000) f) ∧ (∀ j, toI (σ (T + 1)) j ≤ toI f j) ∧ ((r = 1 ∧ bf_ls (aC σ) (uC σ) (vC σ) (gC σ) (mC σ) (toI (σ (T + 1))) (toI f) ∧ (f 30).toInt ≤ 0 ∧ (c 2).toInt = pl_len (dC σ) (toI f) (nC σ)) ∨ (r = 0 ∧ ¬ ∃ z, bf_sol (aC σ) (uC σ) (vC σ) (gC σ) (mC σ) z ∧ (∀ j, toI (σ (T + 1)) j ≤ z j) ∧ z 30 ≤ 0)))
set_option maxRecDepth 100000 in
set_option maxHeartbeats 2000000 in
theorem q_ffe_9 (OK : Nat → dk_L → List dk_V → dk_S → Prop) (σ : dk_S) (hN : NW σ) (hB : bd 10000000 (σ 10)) (h30 : (σ 10 30).toInt ≤ 0) (hpos : ∀ t, t < 30 → 0 ≤ (σ 10 t).toInt) (hC : dk_ok (kX5_findFromEarliest, fX5, [(55, sp_raiseAll)], [(59, sp_max)], [], 2, true) (fun r σ' => ∃ c f, σ' = dk_up (dk_up σ 9 c) 10 f ∧ c 1 = σ 1 0 ∧ (∀ B : Int, B ≤ 10000000 → bd B (σ 10) → bd (B + 4000000) f) ∧ (∀ j, toI (σ 10) j ≤ toI f j) ∧ ((r = 1 ∧ bf_ls (aC σ) (uC σ) (vC σ) (gC σ) (mC σ) (toI (σ 10)) (toI f) ∧ (f 30).toInt ≤ 0 ∧ (c 2).toInt = pl_len (dC σ) (toI f) (nC σ)) ∨ (r = 0 ∧ ¬ ∃ z, bf_sol (aC σ) (uC σ) (vC σ) (gC σ) (mC σ) z ∧ (∀ j, toI (σ 10) j ≤ z j) ∧ z 30 ≤ 0))) OK) : OK 0 [(0, .inr 9)] [] σ := by
  refine hC.go (fun q => if q = 34 then some 2 else none) 60 ?_
  refine dk_cs 10 rfl rfl rfl ⟨⟨rfl, by decide⟩, (hN.up (by decide)).up (by decide), hB, h30⟩ (fun r σ' hq => ?_)
  obtain ⟨f, hσ, hfb, hge, hr⟩ := hq
  have hn30 := hN.n30
  have hσ : σ' = dk_up (dk_up (dk_up σ 9 (upd (σ 9) 1 (σ 1 0))) 9 (upd (dk_up σ 9 (upd (σ 9) 1 (σ 1 0)) 9) 2 0)) 10 f := hσ
  rw [dk_up_up, dk_up_self] at hσ
  have hr : (r = 1 ∧ bf_ls (aC σ) (uC σ) (vC σ) (gC σ) (mC σ) (toI (σ 10)) (toI f) ∧ (f 30).toInt ≤ 0) ∨ (r = 0 ∧ ¬ ∃ z, bf_sol (aC σ) (uC σ) (vC σ) (gC σ) (mC σ) z ∧ (∀ j, toI (σ 10) j ≤ z j) ∧ z 30 ≤ 0) := hr
  have hfb : ∀ B : Int, B ≤ 10000000 → bd B (σ 10) → bd (B + 4000000) f := hfb
  have hge : ∀ j, toI (σ 10) j ≤ toI f j := hge
  subst hσ
  have loop : ∀ (d t : Nat) (c : Nat → Int32), t + d = nC σ → c 1 = σ 1 0 → (c 2).toInt = pl_len (dC σ) (toI f) t → (r = 1 ∧ bf_ls (aC σ) (uC σ) (vC σ) (gC σ) (mC σ) (toI (σ 10)) (toI f) ∧ (f 30).toInt ≤ 0) → OK 34 [(0, .inr 9), (1, .inl (nI t))] [] (dk_up (dk_up σ 9 c) 10 f) := by
    intro d
    induction d with
    | zero =>
      intro t c ht hc1 hc2 hls
      refine hC.go (fun q => if q = 34 then some 2 else none) 60 ?_
      refine ⟨fun h => ⟨Or.inr rfl, c, f, rfl, hc1, hfb, hge, Or.inl ⟨rfl, hls.2.1, hls.2.2, ?_⟩⟩, fun h => ?_⟩
      · rw [hc2, show t = nC σ by omega]
      · exfalso
        apply h
        show c 1 ≤ nI t
        rw [hc1, hN.n, show t = nC σ by omega]
        exact Int32.le_refl _
    | succ d ih =>
      intro t c ht hc1 hc2 hls
      have et : (nI t).toNatClampNeg = t := nI_clamp (by omega)
      have hbt := hfb 10000000 (Int.le_refl _) hB t (by omega)
      have hdt := hN.d (show t < nC σ by omega)
      have hpt := hge t
      have hpp := hpos t (by omega)
      unfold toI at hpt
      have hadd : (f t + σ 2 t).toInt = (f t).toInt + dC σ t := dk_add (by unfold dC at hdt; omega) (by unfold dC at hdt; omega)
      refine hC.go (fun q => if q = 34 then some 2 else none) 60 ?_
      refine ⟨fun h => ?_, fun h => ⟨31, rfl, vp_in_nI (by omega) (by omega), 30, rfl, vp_in_nI (by omega) (by omega), ?_⟩⟩
      · exfalso
        have h : c 1 ≤ nI t := h
        rw [hc1, hN.n] at h
        exact nI_ge (by omega) (by omega) h
      · refine dk_cs (c 2, f (nI t).toNatClampNeg + σ 2 (nI t).toNatClampNeg) rfl rfl rfl trivial (fun r2 σ2 hq => ?_)
        obtain ⟨rfl, hr2⟩ := hq
        refine ⟨by decide, ?_⟩
        have key := ih (t + 1) (upd c 2 r2) (by omega) (by simp [upd, hc1]) ?_ hls
        · have e : dk_up (dk_up (dk_up σ 9 c) 10 f) 9 (upd c 2 r2) = dk_up (dk_up σ 9 (upd c 2 r2)) 10 f := by
            rw [dk_up_comm (show ¬ 9 = 10 by decide), dk_up_up, dk_up_comm (show ¬ 10 = 9 by decide)]
          rw [← nI_1, ← e] at key
          exact key
        · have e2 : upd c 2 r2 2 = r2 := by simp [upd]
          rw [e2, hr2]
          dsimp only
          rw [et]
          simp only [pl_len]
          unfold toI at hc2 ⊢
          rw [← hadd, ← hc2]
          by_cases h3 : c 2 < f t + σ 2 t
          · rw [if_pos h3, if_pos (dk_lt.mp h3)]
          · rw [if_neg h3, if_neg (fun q => h3 (dk_lt.mpr q))]
  refine ⟨fun h => ?_, fun h => ⟨Or.inl rfl, _, f, rfl, ?_, hfb, hge, Or.inr ⟨rfl, ?_⟩⟩⟩
  · refine ⟨by decide, ?_⟩
    have h : ¬ r = 0 := h
    rcases hr with hr | ⟨hr, -⟩
    · exact loop (nC σ) 0 (upd (upd (σ 9) 1 (σ 1 0)) 2 0) (by omega) (by simp [upd]) (by simp [upd, pl_len]) hr
    · exact absurd hr h
  · simp [upd]
  · have h : ¬ ¬ r = 0 := h
    rcases hr with ⟨hr, -⟩ | ⟨-, hr⟩
    · exact absurd (fun q => by rw [hr] at q; exact absurd q (by decide)) h
    · exact hr
set_option maxRecDepth 100000 in
set_option maxHeartbeats 2000000 in
theorem q_ffe_12 (OK : Nat → dk_L → List dk_V → dk_S → Prop) (σ : dk_S) (hN : NW σ) (hB : bd 10000000 (σ 13)) (h30 : (σ 13 30).toInt ≤ 0) (hpos : ∀ t, t < 30 → 0 ≤ (σ 13 t).toInt) (hC : dk_ok (kX5_findFromEarliest, fX5, [(55, sp_raiseAll)], [(59, sp_max)], [], 2, true) (fun r σ' => ∃ c f, σ' = dk_up (dk_up σ 12 c) 13 f ∧ c 1 = σ 1 0 ∧ (∀ B : Int, B ≤ 10000000 → bd B (σ 13) → bd (B + 4000000) f) ∧ (∀ j, toI (σ 13) j ≤ toI f j) ∧ ((r = 1 ∧ bf_ls (aC σ) (uC σ) (vC σ) (gC σ) (mC σ) (toI (σ 13)) (toI f) ∧ (f 30).toInt ≤ 0 ∧ (c 2).toInt = pl_len (dC σ) (toI f) (nC σ)) ∨ (r = 0 ∧ ¬ ∃ z, bf_sol (aC σ) (uC σ) (vC σ) (gC σ) (mC σ) z ∧ (∀ j, toI (σ 13) j ≤ z j) ∧ z 30 ≤ 0))) OK) : OK 0 [(0, .inr 12)] [] σ := by
  refine hC.go (fun q => if q = 34 then some 2 else none) 60 ?_
  refine dk_cs 13 rfl rfl rfl ⟨⟨rfl, by decide⟩, (hN.up (by decide)).up (by decide), hB, h30⟩ (fun r σ' hq => ?_)
  obtain ⟨f, hσ, hfb, hge, hr⟩ := hq
  have hn30 := hN.n30
  have hσ : σ' = dk_up (dk_up (dk_up σ 12 (upd (σ 12) 1 (σ 1 0))) 12 (upd (dk_up σ 12 (upd (σ 12) 1 (σ 1 0)) 12) 2 0)) 13 f := hσ
  rw [dk_up_up, dk_up_self] at hσ
  have hr : (r = 1 ∧ bf_ls (aC σ) (uC σ) (vC σ) (gC σ) (mC σ) (toI (σ 13)) (toI f) ∧ (f 30).toInt ≤ 0) ∨ (r = 0 ∧ ¬ ∃ z, bf_sol (aC σ) (uC σ) (vC σ) (gC σ) (mC σ) z ∧ (∀ j, toI (σ 13) j ≤ z j) ∧ z 30 ≤ 0) := hr
  have hfb : ∀ B : Int, B ≤ 10000000 → bd B (σ 13) → bd (B + 4000000) f := hfb
  have hge : ∀ j, toI (σ 13) j ≤ toI f j := hge
  subst hσ
  have loop : ∀ (d t : Nat) (c : Nat → Int32), t + d = nC σ → c 1 = σ 1 0 → (c 2).toInt = pl_len (dC σ) (toI f) t → (r = 1 ∧ bf_ls (aC σ) (uC σ) (vC σ) (gC σ) (mC σ) (toI (σ 13)) (toI f) ∧ (f 30).toInt ≤ 0) → OK 34 [(0, .inr 12), (1, .inl (nI t))] [] (dk_up (dk_up σ 12 c) 13 f) := by
    intro d
    induction d with
    | zero =>
      intro t c ht hc1 hc2 hls
      refine hC.go (fun q => if q = 34 then some 2 else none) 60 ?_
      refine ⟨fun h => ⟨Or.inr rfl, c, f, rfl, hc1, hfb, hge, Or.inl ⟨rfl, hls.2.1, hls.2.2, ?_⟩⟩, fun h => ?_⟩
      · rw [hc2, show t = nC σ by omega]
      · exfalso
        apply h
        show c 1 ≤ nI t
        rw [hc1, hN.n, show t = nC σ by omega]
        exact Int32.le_refl _
    | succ d ih =>
      intro t c ht hc1 hc2 hls
      have et : (nI t).toNatClampNeg = t := nI_clamp (by omega)
      have hbt := hfb 10000000 (Int.le_refl _) hB t (by omega)
      have hdt := hN.d (show t < nC σ by omega)
      have hpt := hge t
      have hpp := hpos t (by omega)
      unfold toI at hpt
      have hadd : (f t + σ 2 t).toInt = (f t).toInt + dC σ t := dk_add (by unfold dC at hdt; omega) (by unfold dC at hdt; omega)
      refine hC.go (fun q => if q = 34 then some 2 else none) 60 ?_
      refine ⟨fun h => ?_, fun h => ⟨31, rfl, vp_in_nI (by omega) (by omega), 30, rfl, vp_in_nI (by omega) (by omega), ?_⟩⟩
      · exfalso
        have h : c 1 ≤ nI t := h
        rw [hc1, hN.n] at h
        exact nI_ge (by omega) (by omega) h
      · refine dk_cs (c 2, f (nI t).toNatClampNeg + σ 2 (nI t).toNatClampNeg) rfl rfl rfl trivial (fun r2 σ2 hq => ?_)
        obtain ⟨rfl, hr2⟩ := hq
        refine ⟨by decide, ?_⟩
        have key := ih (t + 1) (upd c 2 r2) (by omega) (by simp [upd, hc1]) ?_ hls
        · have e : dk_up (dk_up (dk_up σ 12 c) 13 f) 12 (upd c 2 r2) = dk_up (dk_up σ 12 (upd c 2 r2)) 13 f := by
            rw [dk_up_comm (show ¬ 12 = 13 by decide), dk_up_up, dk_up_comm (show ¬ 13 = 12 by decide)]
          rw [← nI_1, ← e] at key
          exact key
        · have e2 : upd c 2 r2 2 = r2 := by simp [upd]
          rw [e2, hr2]
          dsimp only
          rw [et]
          simp only [pl_len]
          unfold toI at hc2 ⊢
          rw [← hadd, ← hc2]
          by_cases h3 : c 2 < f t + σ 2 t
          · rw [if_pos h3, if_pos (dk_lt.mp h3)]
          · rw [if_neg h3, if_neg (fun q => h3 (dk_lt.mpr q))]
  refine ⟨fun h => ?_, fun h => ⟨Or.inl rfl, _, f, rfl, ?_, hfb, hge, Or.inr ⟨rfl, ?_⟩⟩⟩
  · refine ⟨by decide, ?_⟩
    have h : ¬ r = 0 := h
    rcases hr with hr | ⟨hr, -⟩
    · exact loop (nC σ) 0 (upd (upd (σ 12) 1 (σ 1 0)) 2 0) (by omega) (by simp [upd]) (by simp [upd, pl_len]) hr
    · exact absurd hr h
  · simp [upd]
  · have h : ¬ ¬ r = 0 := h
    rcases hr with ⟨hr, -⟩ | ⟨-, hr⟩
    · exact absurd (fun q => by rw [hr] at q; exact absurd q (by decide)) h
    · exact hr
theorem q_ffe : dk_pure (kX5_findFromEarliest, fX5, [(55, sp_raiseAll)], [(59, sp_max)], [], 2, true) sp_ffe := by
  refine dk_sp_pure (fun x x' e => by cases e; rfl) (fun _ => rfl) ?_
  rintro OK T σ ⟨hT, hN, hB, h30, hpos⟩ hC
  rcases hT with rfl | rfl
  · exact q_ffe_9 OK σ hN hB h30 hpos hC
  · exact q_ffe_12 OK σ hN hB h30 hpos hC
