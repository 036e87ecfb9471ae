/-! the reference's workerOf, cover, checks, count -/
def wofM (is st n : Int32) (g : Nat → Int32) (t : Int32) : Int32 := if ¬ is = 0 ∧ st = 0 then (if 0 ≤ t ∧ t ≤ n - 1 then g t.toNatClampNeg else -1) else -2
abbrev sp_mworkerOf : dk_M := dk_sp 2 true (fun x : Int32 => [.inr 30, .inl x]) (fun _ σ => RN σ) (fun x σ r σ' => σ' = σ ∧ r = wofM (σ 30 25) (σ 30 26) (σ 30 0) (σ 45) x)
set_option maxRecDepth 100000 in
theorem q_mworkerOf : dk_pure (kX7_workerOf, fX7, [], [(79, sp_in)], nX7, 2, false) sp_mworkerOf := by
  refine dk_sp_pure (fun x x' e => by cases e; rfl) (fun _ => rfl) ?_
  rintro OK t σ hR hC
  have hN := hR.1
  have hn := hR.2.1
  have hn30 := hN.n30
  have no : ¬ (¬ σ 30 25 = 0 ∧ σ 30 26 = 0) → σ = σ ∧ (-2 : Int32) = wofM (σ 30 25) (σ 30 26) (σ 30 0) (σ 45) t := fun h => ⟨rfl, (if_neg h).symm⟩
  refine hC.go (fun _ => none) 60 ?_
  refine ⟨fun h => no (fun q => q.1 h), fun h => ⟨fun h2 => dk_cs (t, 0, σ 30 0 - 1) rfl rfl rfl trivial (fun r σ1 hq => ?_), fun h2 => no (fun q => h2 q.2)⟩⟩
  obtain ⟨hσ1, hr⟩ := hq
  rw [hσ1]
  have hr : r = dk_b (0 ≤ t ∧ t ≤ σ 30 0 - 1) := hr
  have e : wofM (σ 30 25) (σ 30 26) (σ 30 0) (σ 45) t = if 0 ≤ t ∧ t ≤ σ 30 0 - 1 then σ 45 t.toNatClampNeg else -1 := if_pos ⟨h, h2⟩
  refine ⟨fun h3 => ⟨rfl, ?_⟩, fun h3 => ⟨30, rfl, ?_, rfl, ?_⟩⟩
  · rw [e, if_neg (dk_b0 hr h3)]
    rfl
  · have ht := dk_b1 hr h3
    rw [hn] at ht
    obtain ⟨k, hk, rfl⟩ := (in_task (by omega) t).mp ht
    exact vp_in_nI (by omega) (by omega)
  · rw [e, if_pos (dk_b1 hr h3)]
def covM (is st n wk ct cw side id : Int32) : Int32 := if ¬ is = 0 ∧ st = 0 then (if side = 0 ∧ 0 ≤ id ∧ id ≤ n - 1 then (ct >>> (id &&& 31)) &&& 1 else if side = 1 ∧ 0 ≤ id ∧ id ≤ wk - 1 then (cw >>> (id &&& 31)) &&& 1 else -1) else -2
abbrev sp_mcover : dk_M := dk_sp 3 true (fun x : Int32 × Int32 => [.inr 30, .inl x.1, .inl x.2]) (fun _ _ => True) (fun x σ r σ' => σ' = σ ∧ r = covM (σ 30 25) (σ 30 26) (σ 30 0) (σ 30 2) (σ 30 29) (σ 30 30) x.1 x.2)
set_option maxRecDepth 100000 in
set_option maxHeartbeats 1000000 in
theorem q_mcover : dk_pure (kX7_cover, fX7, [], [(79, sp_in)], nX7, 3, false) sp_mcover := by
  refine dk_sp_pure (fun x x' e => by obtain ⟨a, b⟩ := x; obtain ⟨a', b'⟩ := x'; cases e; rfl) (fun _ => rfl) ?_
  rintro OK ⟨s, id⟩ σ _ hC
  have no : ¬ (¬ σ 30 25 = 0 ∧ σ 30 26 = 0) → σ = σ ∧ (-2 : Int32) = covM (σ 30 25) (σ 30 26) (σ 30 0) (σ 30 2) (σ 30 29) (σ 30 30) s id := fun h => ⟨rfl, (if_neg h).symm⟩
  have e : (¬ σ 30 25 = 0 ∧ σ 30 26 = 0) → covM (σ 30 25) (σ 30 26) (σ 30 0) (σ 30 2) (σ 30 29) (σ 30 30) s id = if s = 0 ∧ 0 ≤ id ∧ id ≤ σ 30 0 - 1 then (σ 30 29 >>> (id &&& 31)) &&& 1 else if s = 1 ∧ 0 ≤ id ∧ id ≤ σ 30 2 - 1 then (σ 30 30 >>> (id &&& 31)) &&& 1 else -1 := fun h => if_pos h
  have at44 : (¬ σ 30 25 = 0 ∧ σ 30 26 = 0) → ¬ (s = 0 ∧ 0 ≤ id ∧ id ≤ σ 30 0 - 1) → OK 44 [(0, .inr 30), (1, .inl s), (2, .inl id)] [] σ := by
    intro hf hn
    refine hC.go (fun _ => none) 60 ?_
    refine ⟨fun h => ⟨rfl, ?_⟩, fun h => dk_cs (id, 0, σ 30 2 - 1) rfl rfl rfl trivial (fun r σ1 hq => ?_)⟩
    · rw [e hf, if_neg hn, if_neg (fun q => h q.1)]; rfl
    · obtain ⟨hσ1, hr⟩ := hq
      rw [hσ1]
      have hr : r = dk_b (0 ≤ id ∧ id ≤ σ 30 2 - 1) := hr
      have h := Classical.not_not.mp h
      refine ⟨fun h2 => ⟨rfl, ?_⟩, fun h2 => ⟨rfl, ?_⟩⟩
      · rw [e hf, if_neg hn, if_neg (fun q => dk_b0 hr h2 q.2)]; rfl
      · rw [e hf, if_neg hn, if_pos ⟨h, dk_b1 hr h2⟩]; rfl
  refine hC.go (fun q => if q = 44 then some 3 else none) 60 ?_
  refine ⟨fun h => no (fun q => q.1 h), fun h => ⟨fun h2 => ⟨fun h3 => at44 ⟨h, h2⟩ (fun q => h3 q.1), fun h3 => dk_cs (id, 0, σ 30 0 - 1) rfl rfl rfl trivial (fun r σ1 hq => ?_)⟩, fun h2 => no (fun q => h2 q.2)⟩⟩
  obtain ⟨hσ1, hr⟩ := hq
  rw [hσ1]
  have hr : r = dk_b (0 ≤ id ∧ id ≤ σ 30 0 - 1) := hr
  refine ⟨fun h4 => at44 ⟨h, h2⟩ (fun q => dk_b0 hr h4 q.2), fun h4 => ⟨rfl, ?_⟩⟩
  rw [e ⟨h, h2⟩, if_pos ⟨Classical.not_not.mp h3, dk_b1 hr h4⟩]; rfl
/-- a truth carried in a local -/
theorem yn.z {b : Int32} {P : Prop} (h : yn b P) (hb : b = 0) : ¬ P := by
  rcases h with ⟨q, -⟩ | ⟨-, q⟩
  · rw [q] at hb; exact absurd hb i32_ne10
  · exact q
theorem yn.o {b : Int32} {P : Prop} (h : yn b P) (hb : ¬ b = 0) : P := by
  rcases h with ⟨-, q⟩ | ⟨q, -⟩
  · exact q
  · exact absurd q hb
theorem yn.iff {b : Int32} {P Q : Prop} (h : yn b P) (e : P ↔ Q) : yn b Q := by
  rcases h with ⟨q, r⟩ | ⟨q, r⟩
  · exact Or.inl ⟨q, e.mp r⟩
  · exact Or.inr ⟨q, fun x => r (e.mpr x)⟩
def MSAME (σ : dk_S) : Prop := ∃ x y, ES (aC σ) (uC σ) (vC σ) (gC σ) (mC σ) x ∧ GS (aC σ) (uC σ) (vC σ) (gC σ) (mC σ) (nC σ) (l0 (pl_len (dC σ) x (nC σ)) (dC σ)) y ∧ σ 30 24 = σ 30 0 ∧ pl_len (dC σ) x (nC σ) = (σ 30 23).toInt ∧ ∀ t, t < nC σ → x t = toI (σ 43) t ∧ y t = toI (σ 44) t
abbrev sp_checkStarts : dk_M := dk_sp 1 true (fun _ : Unit => [.inr 30]) (fun _ σ => RN σ) (fun _ σ r σ' => (∃ f g, σ' = dk_up (dk_up σ 37 f) 38 g) ∧ yn r (MSAME σ))
set_option maxRecDepth 100000 in
set_option maxHeartbeats 4000000 in
theorem q_checkStarts : dk_pure (kX7_checkStarts, fX7, [(135, sp_soonest), (141, sp_longest), (150, sp_latest)], [], nX7, 4, false) sp_checkStarts := by
  refine dk_sp_pure (fun _ _ _ => rfl) (fun _ => rfl) ?_
  rintro OK _ σ hR hC
  obtain ⟨hN, hn, hm, hdur, hcon, hoo⟩ := hR
  have hn30 := hN.n30
  have hRc : ∀ f g, RN (dk_up (dk_up σ 37 f) 38 g) := fun f g => ⟨hN, hn, hm, hdur, hcon, hoo⟩
  refine hC.go (fun q => if q = 45 then some 2 else none) 60 ?_
  refine ⟨fun h => ⟨⟨σ 37, σ 38, by rw [dk_up_id]; exact dk_up_id.symm⟩, Or.inr ⟨rfl, fun q => ?_⟩⟩, fun h => ?_⟩
  · obtain ⟨x, y, -, -, q, -⟩ := q
    exact h q
  have hk : σ 30 24 = σ 30 0 := Classical.not_not.mp h
  refine dk_cs (-1, 0) rfl rfl rfl ⟨⟨hN, hn, hm, hdur, hcon, hoo⟩, by decide, by decide⟩ (fun r σ1 hq => ?_)
  obtain ⟨f, hσ1, hfb, hr⟩ := hq
  have hr := sp_soonest0 hr
  rw [hσ1]
  have e38 : ∀ f, dk_up (dk_up σ 37 f) 38 (σ 38) = dk_up σ 37 f := fun f => dk_up_id (σ := dk_up σ 37 f) (k := 38)
  refine ⟨fun h2 => ?_, fun h2 => ⟨⟨f, σ 38, (e38 f).symm⟩, Or.inr ⟨rfl, fun q => ?_⟩⟩⟩
  rotate_left
  · obtain ⟨x, y, q1, -⟩ := q
    rcases hr with ⟨q2, -⟩ | ⟨-, q2⟩
    · have h2 : ¬ ¬ r = 0 := h2
      rw [q2] at h2; exact h2 i32_ne10
    · exact q2 q1.FE
  have h2 : ¬ r = 0 := h2
  have hES : ES (aC σ) (uC σ) (vC σ) (gC σ) (mC σ) (xv (nC σ) f) := by
    rcases hr with ⟨-, q⟩ | ⟨q, -⟩
    · exact q
    · exact absurd q h2
  refine dk_cs () rfl rfl rfl ⟨⟨hN, hn, hm, hdur, hcon, hoo⟩, hfb⟩ (fun al σ2 hq2 => ?_)
  obtain ⟨hσ2, hal⟩ := hq2
  rw [hσ2]
  have hal : al.toInt = pl_len (dC σ) (toI f) (nC σ) := hal
  have hal' : al.toInt = pl_len (dC σ) (xv (nC σ) f) (nC σ) := by
    rw [hal]
    exact pl_len_congr (fun t ht => ⟨rfl, (if_pos ht).symm⟩)
  have hal1 := pl_len_le (d := dC σ) (x := toI f) (B := 9001000) (by decide) (n := nC σ) (fun t ht => by
    have h1 : (f t).toInt ≤ 9000000 := (hfb t ht).2
    have h2 := hN.d ht
    show (f t).toInt + dC σ t ≤ 9001000
    omega)
  refine ⟨by decide, ?_⟩
  refine dk_cs al rfl rfl rfl ⟨⟨hN, hn, hm, hdur, hcon, hoo⟩, by rw [hal]; exact hal1.1, by rw [hal]; exact hal1.2, ES_l0 hES hn30 hal'⟩ (fun _ σ3 hq3 => ?_)
  obtain ⟨g, hσ3, hGS⟩ := hq3
  have hGS : GS (aC σ) (uC σ) (vC σ) (gC σ) (mC σ) (nC σ) (l0 al.toInt (dC σ)) (xv (nC σ) g) := hGS
  rw [hσ3]
  have loop : ∀ (d t : Nat) (b : Int32), t + d = nC σ → yn b (al = σ 30 23 ∧ ∀ s, s < t → f s = σ 43 s ∧ g s = σ 44 s) → OK 48 [(0, .inr 30), (1, .inl al), (2, .inl b), (3, .inl (nI t))] [] (dk_up (dk_up σ 37 f) 38 g) := by
    intro d
    induction d with
    | zero =>
      intro t b ht hb
      have ht : t = nC σ := by omega
      subst ht
      have hb' : yn b (MSAME σ) := hb.iff (by
        constructor
        · rintro ⟨q1, q2⟩
          refine ⟨xv (nC σ) f, xv (nC σ) g, hES, by rw [← hal']; exact hGS, hk, by rw [← hal', q1], fun t ht => ⟨?_, ?_⟩⟩
          · show (if t < nC σ then (f t).toInt else 0) = (σ 43 t).toInt
            rw [if_pos ht, (q2 t ht).1]
          · show (if t < nC σ then (g t).toInt else 0) = (σ 44 t).toInt
            rw [if_pos ht, (q2 t ht).2]
        · rintro ⟨x, y, q1, q2, -, q4, q5⟩
          have ex := q1.unique hES
          have el : pl_len (dC σ) x (nC σ) = al.toInt := by
            rw [hal']
            exact pl_len_congr (fun t ht => ⟨rfl, ex t (by omega)⟩)
          rw [el] at q2 q4
          have ey := q2.unique hGS
          refine ⟨dk_eq.mpr q4, fun t ht => ⟨dk_eq.mpr ?_, dk_eq.mpr ?_⟩⟩
          · have h1 := (q5 t ht).1
            rw [ex t (by omega)] at h1
            have h2 : (if t < nC σ then (f t).toInt else 0) = (σ 43 t).toInt := h1
            rw [if_pos ht] at h2
            exact h2
          · have h1 := (q5 t ht).2
            rw [ey t (Or.inl ht)] at h1
            have h2 : (if t < nC σ then (g t).toInt else 0) = (σ 44 t).toInt := h1
            rw [if_pos ht] at h2
            exact h2)
      refine hC.go (fun _ => none) 60 ?_
      refine ⟨fun _ => ⟨fun hz => ⟨⟨f, g, rfl⟩, Or.inr ⟨rfl, hb'.z hz⟩⟩, fun hz => ⟨⟨f, g, rfl⟩, Or.inl ⟨rfl, hb'.o hz⟩⟩⟩, fun q => ?_⟩
      exfalso
      apply q
      show σ 30 0 ≤ nI (nC σ)
      rw [hn]
      exact Int32.le_refl _
    | succ d ih =>
      intro t b ht hb
      have et : (nI t).toNatClampNeg = t := nI_clamp (by omega)
      have hit : vp_in (nI t) 30 := vp_in_nI (by omega) (by omega)
      have at95 : ∀ b', yn b' (al = σ 30 23 ∧ ∀ s, s < t + 1 → f s = σ 43 s ∧ g s = σ 44 s) → OK 95 [(0, .inr 30), (1, .inl al), (2, .inl b), (3, .inl (nI t))] [.inl b'] (dk_up (dk_up σ 37 f) 38 g) := by
        intro b' hb'
        refine hC.go (fun q => if q = 48 then some 4 else none) 60 ?_
        refine ⟨by decide, by decide, ?_⟩
        have key := ih (t + 1) b' (by omega) hb'
        rw [← nI_1 t] at key
        exact key
      refine hC.go (fun q => if q = 95 then some 4 else none) 60 ?_
      refine ⟨fun q => ?_, fun _ => ⟨fun hz => at95 0 (Or.inr ⟨rfl, fun q => hb.z hz ⟨q.1, fun s hs => q.2 s (by omega)⟩⟩), fun hz => ⟨30, rfl, hit, 30, rfl, hit, fun h3 => at95 0 (Or.inr ⟨rfl, fun q => h3 ?_⟩), fun h3 => ⟨30, rfl, hit, 30, rfl, hit, fun h4 => at95 0 (Or.inr ⟨rfl, fun q => h4 ?_⟩), fun h4 => at95 1 (Or.inl ⟨rfl, (hb.o hz).1, fun s hs => ?_⟩)⟩⟩⟩⟩
      · exfalso
        have q : σ 30 0 ≤ nI t := q
        rw [hn, nI_leI (by omega) (by omega)] at q
        omega
      · show f (nI t).toNatClampNeg = σ 43 (nI t).toNatClampNeg
        rw [et]
        exact (q.2 t (by omega)).1
      · show g (nI t).toNatClampNeg = σ 44 (nI t).toNatClampNeg
        rw [et]
        exact (q.2 t (by omega)).2
      · by_cases c : s = t
        · have h3 : ¬ ¬ f (nI t).toNatClampNeg = σ 43 (nI t).toNatClampNeg := h3
          have h4 : ¬ ¬ g (nI t).toNatClampNeg = σ 44 (nI t).toNatClampNeg := h4
          rw [et] at h3 h4
          rw [c]
          exact ⟨Classical.not_not.mp h3, Classical.not_not.mp h4⟩
        · exact (hb.o hz).2 s (by omega)
  have at45 : ∀ b, yn b (al = σ 30 23) → OK 45 [(0, .inr 30), (1, .inl al)] [.inl b] (dk_up (dk_up σ 37 f) 38 g) := by
    intro b hb
    refine hC.go (fun q => if q = 48 then some 4 else none) 60 ?_
    refine ⟨by decide, by decide, loop (nC σ) 0 b (by omega) (hb.iff ⟨fun q => ⟨q, fun s hs => by omega⟩, fun q => q.1⟩)⟩
  exact ⟨fun q => at45 0 (Or.inr ⟨rfl, q⟩), fun q => at45 1 (Or.inl ⟨rfl, Classical.not_not.mp q⟩)⟩
def MSTD (σ : dk_S) : Prop := ∀ i, i < (σ 30 15).toNatClampNeg → 200 ≤ σ 40 i ∨ σ 35 (σ 40 i).toNatClampNeg = 0
abbrev MCI (σ : dk_S) : Prop := ∃ k, k ≤ 31 ∧ σ 30 15 = nI k ∧ ∀ i, i < k → ∃ c, σ 40 i = nI c ∧ (c < 120 ∨ 200 ≤ c ∧ c < 230)
abbrev sp_checkCircle : dk_M := dk_sp 1 true (fun _ : Unit => [.inr 30]) (fun _ σ => MCI σ) (fun _ σ r σ' => σ' = σ ∧ yn r (MSTD σ))
set_option maxRecDepth 100000 in
set_option maxHeartbeats 4000000 in
theorem q_checkCircle : dk_pure (kX7_checkCircle, fX7, [], [], nX7, 3, false) sp_checkCircle := by
  refine dk_sp_pure (fun _ _ _ => rfl) (fun _ => rfl) ?_
  rintro OK _ σ ⟨k, hk, hk1, hk2⟩ hC
  have loop : ∀ (d i : Nat) (b : Int32), i + d = k → yn b (∀ s, s < i → 200 ≤ σ 40 s ∨ σ 35 (σ 40 s).toNatClampNeg = 0) → OK 4 [(0, .inr 30), (1, .inl b), (2, .inl (nI i))] [] σ := by
    intro d
    induction d with
    | zero =>
      intro i b hi hb
      have hi : i = k := by omega
      subst hi
      have hb' : yn b (MSTD σ) := hb.iff (by
        unfold MSTD
        rw [hk1, nI_clamp (by omega)])
      refine hC.go (fun _ => none) 60 ?_
      refine ⟨fun _ => ⟨fun hz => ⟨rfl, Or.inr ⟨rfl, hb'.z hz⟩⟩, fun hz => ⟨rfl, Or.inl ⟨rfl, hb'.o hz⟩⟩⟩, fun q => ?_⟩
      exfalso
      apply q
      show σ 30 15 ≤ nI i
      rw [hk1]
      exact Int32.le_refl _
    | succ d ih =>
      intro i b hi hb
      have ei : (nI i).toNatClampNeg = i := nI_clamp (by omega)
      have hii : vp_in (nI i) 40 := vp_in_nI (by omega) (by omega)
      obtain ⟨c, hc1, hc2⟩ := hk2 i (by omega)
      have at47 : ∀ b', yn b' (∀ s, s < i + 1 → 200 ≤ σ 40 s ∨ σ 35 (σ 40 s).toNatClampNeg = 0) → OK 47 [(0, .inr 30), (1, .inl b), (2, .inl (nI i))] [.inl b'] σ := by
        intro b' hb'
        refine hC.go (fun q => if q = 4 then some 3 else none) 60 ?_
        refine ⟨by decide, by decide, ?_⟩
        have key := ih (i + 1) b' (by omega) hb'
        rw [← nI_1 i] at key
        exact key
      have grow : (∀ s, s < i → 200 ≤ σ 40 s ∨ σ 35 (σ 40 s).toNatClampNeg = 0) → (200 ≤ σ 40 i ∨ σ 35 (σ 40 i).toNatClampNeg = 0) → ∀ s, s < i + 1 → 200 ≤ σ 40 s ∨ σ 35 (σ 40 s).toNatClampNeg = 0 := fun h1 h2 s hs => by
        by_cases c : s = i
        · rw [c]; exact h2
        · exact h1 s (by omega)
      refine hC.go (fun q => if q = 47 then some 3 else none) 60 ?_
      refine ⟨fun q => ?_, fun _ => ⟨fun hz => at47 0 (Or.inr ⟨rfl, fun q => hb.z hz (fun s hs => q s (by omega))⟩), fun hz => ⟨40, rfl, hii, fun h3 => at47 1 (Or.inl ⟨rfl, grow (hb.o hz) (Or.inl ?_)⟩), fun h3 => ⟨40, rfl, hii, 120, rfl, ?_, fun h4 => at47 0 (Or.inr ⟨rfl, fun q => ?_⟩), fun h4 => at47 1 (Or.inl ⟨rfl, grow (hb.o hz) (Or.inr ?_)⟩)⟩⟩⟩⟩
      · exfalso
        have q : σ 30 15 ≤ nI i := q
        rw [hk1, nI_leI (by omega) (by omega)] at q
        omega
      · have h3 : 200 ≤ σ 40 (nI i).toNatClampNeg := h3
        rw [ei] at h3
        exact h3
      all_goals
        have h3 : ¬ nI 200 ≤ σ 40 (nI i).toNatClampNeg := h3
        rw [ei, hc1, nI_leI (by omega) (by omega)] at h3
      · show vp_in (σ 40 (nI i).toNatClampNeg) 120
        rw [ei, hc1]
        exact vp_in_nI (by omega) (by omega)
      · have h4 : ¬ σ 35 (σ 40 (nI i).toNatClampNeg).toNatClampNeg = 0 := h4
        rw [ei] at h4
        rcases q i (by omega) with q | q
        · have q : nI 200 ≤ σ 40 i := q
          rw [hc1, nI_leI (by omega) (by omega)] at q
          exact h3 q
        · exact h4 q
      · have h4 : ¬ ¬ σ 35 (σ 40 (nI i).toNatClampNeg).toNatClampNeg = 0 := h4
        rw [ei] at h4
        exact Classical.not_not.mp h4
  refine hC.go (fun q => if q = 4 then some 3 else none) 60 ?_
  exact ⟨by decide, by decide, loop k 0 1 (by omega) (Or.inl ⟨rfl, fun s hs => by omega⟩)⟩
def MHOLD (σ : dk_S) : Prop := ∃ x, ES (aC σ) (uC σ) (vC σ) (gC σ) (mC σ) x ∧ (∀ i, i < 32 → bt (σ 30 28) i = (decide (i < nC σ) && rn x (dC σ) (σ 30 27).toInt i)) ∧ ∀ t, t < nC σ → Cov (σ 30 28) (σ 30 29) (σ 30 30) (σ 36) t
abbrev sp_checkMatch : dk_M := dk_sp 1 true (fun _ : Unit => [.inr 30]) (fun _ σ => RN σ) (fun _ σ r σ' => (∃ f, σ' = dk_up σ 37 f) ∧ yn r (MHOLD σ))
set_option maxRecDepth 100000 in
set_option maxHeartbeats 4000000 in
theorem q_checkMatch : dk_pure (kX7_checkMatch, fX7, [(135, sp_soonest)], [], nX7, 4, false) sp_checkMatch := by
  refine dk_sp_pure (fun _ _ _ => rfl) (fun _ => rfl) ?_
  rintro OK _ σ hR hC
  obtain ⟨hN, hn, hm, hdur, hcon, hoo⟩ := hR
  have hn30 := hN.n30
  refine hC.go (fun q => if q = 15 then some 3 else none) 60 ?_
  refine dk_cs (-1, 0) rfl rfl rfl ⟨⟨hN, hn, hm, hdur, hcon, hoo⟩, by decide, by decide⟩ (fun r σ1 hq => ?_)
  obtain ⟨f, hσ1, hfb, hr⟩ := hq
  have hr := sp_soonest0 hr
  have hfb : ∀ t, t < nC σ → 0 ≤ (f t).toInt ∧ (f t).toInt ≤ 9000000 := hfb
  rw [hσ1]
  refine ⟨fun h2 => ?_, fun h2 => ⟨⟨f, rfl⟩, Or.inr ⟨rfl, fun q => ?_⟩⟩⟩
  rotate_left
  · obtain ⟨x, q1, -⟩ := q
    rcases hr with ⟨q2, -⟩ | ⟨-, q2⟩
    · have h2 : ¬ ¬ r = 0 := h2
      rw [q2] at h2; exact h2 i32_ne10
    · exact q2 q1.FE
  have h2 : ¬ r = 0 := h2
  have hES : ES (aC σ) (uC σ) (vC σ) (gC σ) (mC σ) (xv (nC σ) f) := by
    rcases hr with ⟨-, q⟩ | ⟨q, -⟩
    · exact q
    · exact absurd q h2
  obtain ⟨X, hX⟩ : ∃ X, X = xv (nC σ) f := ⟨_, rfl⟩
  have hXt : ∀ t, t < nC σ → X t = (f t).toInt := fun t ht => by rw [hX]; exact if_pos ht
  rw [← hX] at hES
  have loop2 : ∀ (ru : Int32), (∀ i, i < 32 → bt ru i = (decide (i < nC σ) && rn X (dC σ) (σ 30 27).toInt i)) → ∀ (d t : Nat) (b : Int32), t + d = nC σ → yn b (ru = σ 30 28 ∧ ∀ s, s < t → Cov (σ 30 28) (σ 30 29) (σ 30 30) (σ 36) s) → OK 88 [(0, .inr 30), (1, .inl ru), (2, .inl b), (3, .inl (nI t))] [] (dk_up σ 37 f) := by
    intro ru hru d
    induction d with
    | zero =>
      intro t b ht hb
      have ht : t = nC σ := by omega
      subst ht
      have hb' : yn b (MHOLD σ) := hb.iff (by
        constructor
        · rintro ⟨q1, q2⟩
          exact ⟨X, hES, by rw [← q1]; exact hru, q2⟩
        · rintro ⟨x, q1, q2, q3⟩
          refine ⟨b_ext (fun i hi => ?_), q3⟩
          rw [q2 i hi, hru i hi]
          by_cases c2 : i < nC σ
          · unfold rn
            rw [q1.unique hES i (by omega)]
          · simp [c2])
      refine hC.go (fun _ => none) 60 ?_
      refine ⟨fun _ => ⟨fun hz => ⟨⟨f, rfl⟩, Or.inr ⟨rfl, hb'.z hz⟩⟩, fun hz => ⟨⟨f, rfl⟩, Or.inl ⟨rfl, hb'.o hz⟩⟩⟩, fun q => ?_⟩
      exfalso
      apply q
      show σ 30 0 ≤ nI (nC σ)
      rw [hn]
      exact Int32.le_refl _
    | succ d ih =>
      intro t b ht hb
      have et : (nI t).toNatClampNeg = t := nI_clamp (by omega)
      have hit : vp_in (nI t) 30 := vp_in_nI (by omega) (by omega)
      have bit : ∀ x : Int32, ((x >>> (nI t &&& 31)) &&& 1) = if bt x t = true then 1 else 0 := fun x => b_get (by omega) x
      have at144 : ∀ b', yn b' (ru = σ 30 28 ∧ ∀ s, s < t + 1 → Cov (σ 30 28) (σ 30 29) (σ 30 30) (σ 36) s) → OK 144 [(0, .inr 30), (1, .inl ru), (2, .inl b), (3, .inl (nI t))] [.inl b'] (dk_up σ 37 f) := by
        intro b' hb'
        refine hC.go (fun q => if q = 88 then some 4 else none) 60 ?_
        refine ⟨by decide, by decide, ?_⟩
        have key := ih (t + 1) b' (by omega) hb'
        rw [← nI_1 t] at key
        exact key
      have grow : (ru = σ 30 28 ∧ ∀ s, s < t → Cov (σ 30 28) (σ 30 29) (σ 30 30) (σ 36) s) → Cov (σ 30 28) (σ 30 29) (σ 30 30) (σ 36) t → (ru = σ 30 28 ∧ ∀ s, s < t + 1 → Cov (σ 30 28) (σ 30 29) (σ 30 30) (σ 36) s) := fun h1 h2 => ⟨h1.1, fun s hs => by
        by_cases c : s = t
        · rw [c]; exact h2
        · exact h1.2 s (by omega)⟩
      refine hC.go (fun q => if q = 144 then some 4 else none) 60 ?_
      refine ⟨fun q => ?_, fun _ => ⟨fun hz => at144 0 (Or.inr ⟨rfl, fun q => hb.z hz ⟨q.1, fun s hs => q.2 s (by omega)⟩⟩), fun hz => ⟨fun h3 => at144 1 (Or.inl ⟨rfl, grow (hb.o hz) (Or.inl ?_)⟩), fun h3 => ⟨fun h4 => at144 1 (Or.inl ⟨rfl, grow (hb.o hz) (Or.inr (Or.inl ?_))⟩), fun h4 => ⟨30, rfl, hit, fun h5 => at144 0 (Or.inr ⟨rfl, fun q => ?_⟩), fun h5 => at144 1 (Or.inl ⟨rfl, grow (hb.o hz) (Or.inr (Or.inr ?_))⟩)⟩⟩⟩⟩⟩
      · exfalso
        have q : σ 30 0 ≤ nI t := q
        rw [hn, nI_leI (by omega) (by omega)] at q
        omega
      · have h3 : (σ 30 28 >>> (nI t &&& 31)) &&& 1 = 0 := h3
        rw [bit] at h3
        intro q
        rw [if_pos q] at h3
        exact absurd h3 i32_ne10
      · have h4 : (σ 30 29 >>> (nI t &&& 31)) &&& 1 = 1 := h4
        rw [bit] at h4
        apply Classical.byContradiction
        intro q
        rw [if_neg q] at h4
        exact absurd h4.symm i32_ne10
      · have h3 : ¬ (σ 30 28 >>> (nI t &&& 31)) &&& 1 = 0 := h3
        have h4 : ¬ (σ 30 29 >>> (nI t &&& 31)) &&& 1 = 1 := h4
        have h5 : ¬ σ 36 (nI t).toNatClampNeg &&& (σ 30 30 ^^^ (-1)) = 0 := h5
        rw [bit] at h3 h4
        rw [et] at h5
        rcases q.2 t (by omega) with q | q | q
        · rw [if_neg q] at h3; exact h3 rfl
        · rw [if_pos q] at h4; exact h4 rfl
        · exact h5 q
      · have h5 : ¬ ¬ σ 36 (nI t).toNatClampNeg &&& (σ 30 30 ^^^ (-1)) = 0 := h5
        rw [et] at h5
        exact Classical.not_not.mp h5
  have at85 : ∀ (ru b : Int32) (t : Nat), (∀ i, i < 32 → bt ru i = (decide (i < nC σ) && rn X (dC σ) (σ 30 27).toInt i)) → yn b (ru = σ 30 28) → OK 85 [(0, .inr 30), (1, .inl ru), (2, .inl (nI t))] [.inl b] (dk_up σ 37 f) := by
    intro ru b t hru hb
    refine hC.go (fun q => if q = 88 then some 4 else none) 60 ?_
    exact ⟨by decide, by decide, loop2 ru hru (nC σ) 0 b (by omega) (hb.iff ⟨fun q => ⟨q, fun s hs => by omega⟩, fun q => q.1⟩)⟩
  have loop1 : ∀ (d t : Nat) (ru : Int32), t + d = nC σ → (∀ i, i < 32 → bt ru i = (decide (i < t) && rn X (dC σ) (σ 30 27).toInt i)) → OK 15 [(0, .inr 30), (1, .inl ru), (2, .inl (nI t))] [] (dk_up σ 37 f) := by
    intro d
    induction d with
    | zero =>
      intro t ru ht hru
      have ht : t = nC σ := by omega
      subst ht
      refine hC.go (fun q => if q = 85 then some 3 else none) 60 ?_
      refine ⟨fun _ => ⟨fun q => at85 ru 0 _ hru (Or.inr ⟨rfl, q⟩), fun q => at85 ru 1 _ hru (Or.inl ⟨rfl, Classical.not_not.mp q⟩)⟩, fun h => ?_⟩
      exfalso
      apply h
      show σ 30 0 ≤ nI (nC σ)
      rw [hn]
      exact Int32.le_refl _
    | succ d ih =>
      intro t ru ht hru
      have et : (nI t).toNatClampNeg = t := nI_clamp (by omega)
      have hit : vp_in (nI t) 30 := vp_in_nI (by omega) (by omega)
      have hft := hfb t (by omega)
      have hdt := hN.d (show t < nC σ by omega)
      have hs : (f (nI t).toNatClampNeg + σ 31 (nI t).toNatClampNeg).toInt = X t + dC σ t := by
        rw [et, hdur t (by omega), hXt t (by omega)]
        exact dk_add (by unfold dC at hdt; omega) (by unfold dC at hdt; omega)
      have at64 : ∀ z : Int32, (∀ i, i < 32 → bt (ru ||| z) i = (decide (i < t + 1) && rn X (dC σ) (σ 30 27).toInt i)) → OK 64 [(0, .inr 30), (1, .inl ru), (2, .inl (nI t))] [.inl z, .inl ru] (dk_up σ 37 f) := by
        intro z hz
        refine hC.go (fun q => if q = 15 then some 3 else none) 60 ?_
        refine ⟨by decide, by decide, ?_⟩
        have key := ih (t + 1) (ru ||| z) (by omega) hz
        rw [← nI_1 t] at key
        exact key
      have none' : rn X (dC σ) (σ 30 27).toInt t = false → ∀ i, i < 32 → bt (ru ||| 0) i = (decide (i < t + 1) && rn X (dC σ) (σ 30 27).toInt i) := fun hno i hi => by
        rw [b_or, b_0, hru i hi, Bool.or_false]
        by_cases c : i = t
        · rw [c, hno]; simp
        · have : (i < t) ↔ (i < t + 1) := by omega
          simp [this]
      refine hC.go (fun q => if q = 64 then some 3 else none) 60 ?_
      refine ⟨fun h => ?_, fun _ => ⟨30, rfl, hit, fun h3 => at64 0 (none' ?_), fun h3 => ⟨30, rfl, hit, 30, rfl, hit, fun h4 => at64 0 (none' ?_), fun h4 => at64 _ (fun i hi => ?_)⟩⟩⟩
      · exfalso
        have h : σ 30 0 ≤ nI t := h
        rw [hn, nI_leI (by omega) (by omega)] at h
        omega
      · have h3 : σ 30 27 < f (nI t).toNatClampNeg := h3
        rw [et, dk_lt, ← hXt t (by omega)] at h3
        exact decide_eq_false (fun q => by omega)
      · have h4 : f (nI t).toNatClampNeg + σ 31 (nI t).toNatClampNeg ≤ σ 30 27 := h4
        rw [dk_le, hs] at h4
        exact decide_eq_false (fun q => by omega)
      · have h3 : ¬ σ 30 27 < f (nI t).toNatClampNeg := h3
        have h4 : ¬ f (nI t).toNatClampNeg + σ 31 (nI t).toNatClampNeg ≤ σ 30 27 := h4
        rw [et, dk_lt, ← hXt t (by omega)] at h3
        rw [dk_le, hs] at h4
        have hyes : rn X (dC σ) (σ 30 27).toInt t = true := decide_eq_true (by omega)
        show bt (ru ||| (1 : Int32) <<< (nI t &&& 31)) i = _
        rw [b_or, hru i hi, b_bit (by omega) hi]
        by_cases c : i = t
        · rw [c, hyes]; simp
        · have : (i < t) ↔ (i < t + 1) := by omega
          simp [this, c]
  refine ⟨by decide, by decide, loop1 (nC σ) 0 0 (by omega) (fun i hi => ?_)⟩
  rw [b_0]
  simp
def MCHK (σ : dk_S) (x r : Int32) : Prop := (x = 0 ∧ σ 30 19 = 0 ∧ yn r (MSAME σ)) ∨ (x = 1 ∧ σ 30 19 = 1 ∧ yn r (MSTD σ)) ∨ (x = 2 ∧ ¬ σ 30 25 = 0 ∧ yn r (MHOLD σ)) ∨ ((¬ (x = 0 ∧ σ 30 19 = 0) ∧ ¬ (x = 1 ∧ σ 30 19 = 1) ∧ ¬ (x = 2 ∧ ¬ σ 30 25 = 0)) ∧ r = -1)
abbrev sp_mcheck : dk_M := dk_sp 2 true (fun x : Int32 => [.inr 30, .inl x]) (fun _ σ => RN σ ∧ MCI σ) (fun x σ r σ' => (∃ f g, σ' = dk_up (dk_up σ 37 f) 38 g) ∧ MCHK σ x r)
set_option maxRecDepth 100000 in
set_option maxHeartbeats 1000000 in
theorem q_mcheck : dk_pure (kX7_check, fX7, [(196, sp_checkStarts), (199, sp_checkCircle), (202, sp_checkMatch)], [], nX7, 2, false) sp_mcheck := by
  refine dk_sp_pure (fun x x' e => by cases e; rfl) (fun _ => rfl) ?_
  rintro OK w σ ⟨hR, hM⟩ hC
  have same : ∃ f g, σ = dk_up (dk_up σ 37 f) 38 g := ⟨σ 37, σ 38, by rw [dk_up_id]; exact dk_up_id.symm⟩
  have ne1 : ¬ (1 : Int32) = 0 := by decide
  have ne2 : ¬ (2 : Int32) = 0 := by decide
  have ne3 : ¬ (2 : Int32) = 1 := by decide
  refine hC.go (fun _ => none) 60 ?_
  refine ⟨fun h => ⟨fun h1 => ⟨fun h2 => ?_, fun h2 => ⟨fun h3 => ?_, fun h3 => ?_⟩⟩, fun h1 => ⟨fun h2 => ?_, fun h2 => ?_⟩⟩, fun h => ⟨fun h2 => ?_, fun h2 => ?_⟩⟩
  · exact ⟨same, Or.inr (Or.inr (Or.inr ⟨⟨fun q => h q.1, fun q => h1 q.1, fun q => h2 q.1⟩, rfl⟩))⟩
  · exact ⟨same, Or.inr (Or.inr (Or.inr ⟨⟨fun q => h q.1, fun q => h1 q.1, fun q => q.2 h3⟩, rfl⟩))⟩
  · refine dk_cs () rfl rfl rfl hR (fun r σ1 hq => ?_)
    obtain ⟨⟨f, hσ1⟩, hr⟩ := hq
    rw [hσ1]
    exact ⟨⟨f, σ 38, (dk_up_id (σ := dk_up σ 37 f) (k := 38)).symm⟩, Or.inr (Or.inr (Or.inl ⟨Classical.not_not.mp h2, h3, hr⟩))⟩
  · have hw : w = 1 := Classical.not_not.mp h1
    exact ⟨same, Or.inr (Or.inr (Or.inr ⟨⟨fun q => h q.1, fun q => h2 q.2, fun q => ne3 (by rw [← q.1, hw])⟩, rfl⟩))⟩
  · refine dk_cs () rfl rfl rfl hM (fun r σ1 hq => ?_)
    rw [hq.1]
    exact ⟨same, Or.inr (Or.inl ⟨Classical.not_not.mp h1, Classical.not_not.mp h2, hq.2⟩)⟩
  · have hw : w = 0 := Classical.not_not.mp h
    exact ⟨same, Or.inr (Or.inr (Or.inr ⟨⟨fun q => h2 q.2, fun q => ne1 (by rw [← q.1, hw]), fun q => ne2 (by rw [← q.1, hw])⟩, rfl⟩))⟩
  · refine dk_cs () rfl rfl rfl hR (fun r σ1 hq => ?_)
    obtain ⟨⟨f, g, hσ1⟩, hr⟩ := hq
    rw [hσ1]
    exact ⟨⟨f, g, rfl⟩, Or.inl ⟨Classical.not_not.mp h, Classical.not_not.mp h2, hr⟩⟩
abbrev sp_bits : dk_M := dk_sp 1 true (fun x : Int32 => [.inl x]) (fun _ _ => True) (fun x σ r σ' => σ' = σ ∧ r = nI (cn (bt x) 30))
set_option maxRecDepth 100000 in
set_option maxHeartbeats 1000000 in
theorem q_bits : dk_pure (kX7_bits, fX7, [], [], nX7, 3, false) sp_bits := by
  refine dk_sp_pure (fun x x' e => by cases e; rfl) (fun _ => rfl) ?_
  rintro OK x σ _ hC
  have loop : ∀ (d k : Nat), k + d = 30 → OK 4 [(0, .inl x), (1, .inl (nI (cn (bt x) k))), (2, .inl (nI k))] [] σ := by
    intro d
    induction d with
    | zero =>
      intro k hk
      have hk : k = 30 := by omega
      subst hk
      refine hC.go (fun _ => none) 60 ?_
      exact ⟨fun _ => ⟨rfl, rfl⟩, fun h => absurd (show nI 30 ≤ nI 30 by decide) h⟩
    | succ d ih =>
      intro k hk
      have bit : ((x >>> (nI k &&& 31)) &&& 1) = if bt x k = true then 1 else 0 := b_get (by omega) x
      have hadd : nI (cn (bt x) k) + ((x >>> (nI k &&& 31)) &&& 1) = nI (cn (bt x) (k + 1)) := by
        rw [bit]
        show _ = nI (cn (bt x) k + if bt x k = true then 1 else 0)
        by_cases c : bt x k = true
        · rw [if_pos c, if_pos c]; exact nI_1 _
        · rw [if_neg c, if_neg c]; exact Int32.add_zero _
      refine hC.go (fun q => if q = 4 then some 3 else none) 60 ?_
      refine ⟨fun h => ?_, fun _ => ⟨by decide, by decide, ?_⟩⟩
      · exfalso
        have h : nI 30 ≤ nI k := h
        rw [nI_leI (by omega) (by omega)] at h
        omega
      · have key := ih (k + 1) (by omega)
        rw [← nI_1 k, ← hadd] at key
        exact key
  refine hC.go (fun q => if q = 4 then some 3 else none) 60 ?_
  exact ⟨by decide, by decide, loop 30 0 (by omega)⟩
def countM (a0 a1 a2 a3 a4 oc st ch ci cv w : Int32) : Int32 := if w = 0 then a0 else if w = 1 then a1 else if w = 2 then a2 else if w = 3 then a3 else if w = 4 then a4 else if w = 5 then oc else if w = 6 then (if st = 0 then 0 else 1) else if w = 7 then (if st = 0 then ch else 0) else if w = 8 then (if st = 0 then ci else 0) else if w = 9 then cv else -1
def cvM (σ : dk_S) : Int32 := if ¬ σ 30 25 = 0 ∧ σ 30 26 = 0 then nI (cn (bt (σ 30 29)) 30) + nI (cn (bt (σ 30 30)) 30) else 0
abbrev sp_mcount : dk_M := dk_sp 2 true (fun x : Int32 => [.inr 30, .inl x]) (fun _ _ => True) (fun x σ r σ' => σ' = σ ∧ r = countM (σ 30 0) (σ 30 1) (σ 30 3) (σ 30 2) (σ 30 10) (σ 30 19) (σ 30 20) (σ 30 17) (σ 30 15) (cvM σ) x)
set_option maxRecDepth 100000 in
set_option maxHeartbeats 2000000 in
theorem q_mcount : dk_pure (kX7_count, fX7, [], [(205, sp_bits)], nX7, 2, false) sp_mcount := by
  refine dk_sp_pure (fun x x' e => by cases e; rfl) (fun _ => rfl) ?_
  rintro OK w σ _ hC
  have ps : ∀ {v : Int32} {k : Int}, v.toInt = k → w.toInt = k → w = v := fun h1 h2 => i32_sw h1 h2
  obtain ⟨cv, hcv⟩ : ∃ cv, cv = cvM σ := ⟨_, rfl⟩
  obtain ⟨st, hst⟩ : ∃ st, st = σ 30 20 := ⟨_, rfl⟩
  refine hC.go (fun _ => none) 60 ?_
  refine ⟨fun h => ⟨by decide, rfl, ?_⟩, rfl, fun h => ⟨by decide, rfl, ?_⟩, fun h => ⟨by decide, rfl, ?_⟩, fun h => ⟨by decide, rfl, ?_⟩, fun h => ⟨by decide, rfl, ?_⟩, fun h => ⟨by decide, rfl, ?_⟩, fun h => ⟨by decide, rfl, ?_⟩, fun h => ⟨by decide, fun h2 => ⟨rfl, ?_⟩, fun h2 => ⟨rfl, ?_⟩⟩, fun h => ⟨by decide, fun h2 => ⟨rfl, ?_⟩, fun h2 => ⟨rfl, ?_⟩⟩, fun h => ⟨by decide, fun h2 => ⟨rfl, ?_⟩, fun h2 => ⟨rfl, ?_⟩⟩, fun h => ⟨by decide, fun h2 => ⟨rfl, ?_⟩, fun h2 => ⟨fun h3 => ⟨rfl, ?_⟩, fun h3 => ?_⟩⟩, trivial⟩
  · have h : w.toInt < 0 ∨ 9 < w.toInt := h
    have n : ∀ v : Int32, 0 ≤ v.toInt → v.toInt ≤ 9 → ¬ w = v := fun v h1 h2 q => by rw [q] at h; omega
    unfold countM
    rw [if_neg (n 0 (by decide) (by decide)), if_neg (n 1 (by decide) (by decide)), if_neg (n 2 (by decide) (by decide)), if_neg (n 3 (by decide) (by decide)), if_neg (n 4 (by decide) (by decide)), if_neg (n 5 (by decide) (by decide)), if_neg (n 6 (by decide) (by decide)), if_neg (n 7 (by decide) (by decide)), if_neg (n 8 (by decide) (by decide)), if_neg (n 9 (by decide) (by decide))]
    rfl
  · have h : w = 0 := ps rfl h
    rw [h]; rfl
  · have h : w = 1 := ps rfl h
    rw [h]; rfl
  · have h : w = 2 := ps rfl h
    rw [h]; rfl
  · have h : w = 3 := ps rfl h
    rw [h]; rfl
  · have h : w = 4 := ps rfl h
    rw [h]; rfl
  · have h : w = 5 := ps rfl h
    rw [h]; rfl
  · have h : w = 6 := ps rfl h
    have h2 : σ 30 20 = 0 := h2
    rw [h, h2]; rfl
  · have h : w = 6 := ps rfl h
    have h2 : ¬ σ 30 20 = 0 := h2
    rw [h]
    show _ = if σ 30 20 = 0 then (0 : Int32) else 1
    rw [if_neg h2]; rfl
  · have h : w = 7 := ps rfl h
    have h2 : σ 30 20 = 0 := h2
    rw [h, h2]; rfl
  · have h : w = 7 := ps rfl h
    have h2 : ¬ σ 30 20 = 0 := h2
    rw [h]
    show _ = if σ 30 20 = 0 then σ 30 17 else 0
    rw [if_neg h2]; rfl
  · have h : w = 8 := ps rfl h
    have h2 : σ 30 20 = 0 := h2
    rw [h, h2]; rfl
  · have h : w = 8 := ps rfl h
    have h2 : ¬ σ 30 20 = 0 := h2
    rw [h]
    show _ = if σ 30 20 = 0 then σ 30 15 else 0
    rw [if_neg h2]; rfl
  · have h : w = 9 := ps rfl h
    have h2 : σ 30 25 = 0 := h2
    rw [h]
    show _ = cvM σ
    unfold cvM
    rw [if_neg (fun q => q.1 h2)]; rfl
  · have h : w = 9 := ps rfl h
    have h3 : ¬ σ 30 26 = 0 := h3
    rw [h]
    show _ = cvM σ
    unfold cvM
    rw [if_neg (fun q => h3 q.2)]; rfl
  · have h : w = 9 := ps rfl h
    have h2 : ¬ σ 30 25 = 0 := h2
    have h3 : ¬ ¬ σ 30 26 = 0 := h3
    refine dk_cs (σ 30 29) rfl rfl rfl trivial (fun r1 σ1 hq1 => ?_)
    rw [hq1.1]
    refine dk_cs (σ 30 30) rfl rfl rfl trivial (fun r2 σ2 hq2 => ?_)
    rw [hq2.1, hq1.2, hq2.2]
    refine ⟨rfl, ?_⟩
    rw [h]
    show _ = cvM σ
    unfold cvM
    rw [if_pos ⟨h2, Classical.not_not.mp h3⟩]
