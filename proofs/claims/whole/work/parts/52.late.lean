/-! the reference's length, latest starts -/
abbrev sp_longest : dk_M := dk_sp 1 true (fun _ : Unit => [.inr 30]) (fun _ σ => RN σ ∧ ∀ t, t < nC σ → 0 ≤ (σ 37 t).toInt ∧ (σ 37 t).toInt ≤ 9000000) (fun _ σ r σ' => σ' = σ ∧ r.toInt = pl_len (dC σ) (toI (σ 37)) (nC σ))
set_option maxRecDepth 100000 in
set_option maxHeartbeats 1000000 in
theorem q_longest : dk_pure (kX7_longest, fX7, [], [], nX7, 3, false) sp_longest := by
  refine dk_sp_pure (fun _ _ _ => rfl) (fun _ => rfl) ?_
  rintro OK _ σ ⟨⟨hN, hn, hm, hdur, hcon, hoo⟩, hB⟩ hC
  have hn30 := hN.n30
  have loop : ∀ (e t : Nat) (z : Int32), t + e = nC σ → z.toInt = pl_len (dC σ) (toI (σ 37)) t → OK 4 [(0, .inr 30), (1, .inl z), (2, .inl (nI t))] [] σ := by
    intro e
    induction e with
    | zero =>
      intro t z ht hz
      have ht : t = nC σ := by omega
      subst ht
      refine hC.go (fun q => if q = 4 then some 3 else none) 60 ?_
      refine ⟨fun _ => ⟨rfl, hz⟩, fun h => ?_⟩
      exfalso
      apply h
      show σ 30 0 ≤ nI (nC σ)
      rw [hn]
      exact Int32.le_refl _
    | succ e ih =>
      intro t z ht hz
      have et : (nI t).toNatClampNeg = t := nI_clamp (by omega)
      have hit : vp_in (nI t) 30 := vp_in_nI (by omega) (by omega)
      have hb := hB t (by omega)
      have hd := hN.d (show t < nC σ by omega)
      have hadd : (σ 37 (nI t).toNatClampNeg + σ 31 (nI t).toNatClampNeg).toInt = toI (σ 37) t + dC σ t := by
        rw [et, hdur t (by omega)]
        exact dk_add (by unfold dC at hd; omega) (by unfold dC at hd; omega)
      have at46 : ∀ z' : Int32, z'.toInt = pl_len (dC σ) (toI (σ 37)) (t + 1) → OK 46 [(0, .inr 30), (1, .inl z), (2, .inl (nI t))] [.inl z'] σ := by
        intro z' hz'
        refine hC.go (fun q => if q = 4 then some 3 else none) 60 ?_
        refine ⟨by decide, by decide, ?_⟩
        have key := ih (t + 1) z' (by omega) hz'
        rw [← nI_1 t] at key
        exact key
      refine hC.go (fun q => if q = 46 then some 3 else none) 60 ?_
      refine ⟨fun h => ?_, fun _ => ⟨30, rfl, hit, 30, rfl, hit, fun h => at46 z ?_, fun h => ⟨30, rfl, hit, 30, rfl, hit, at46 _ ?_⟩⟩⟩
      · exfalso
        have h : σ 30 0 ≤ nI t := h
        rw [hn, nI_leI (by omega) (by omega)] at h
        omega
      · have h : σ 37 (nI t).toNatClampNeg + σ 31 (nI t).toNatClampNeg ≤ z := h
        rw [dk_le, hadd] at h
        show z.toInt = if pl_len (dC σ) (toI (σ 37)) t < toI (σ 37) t + dC σ t then toI (σ 37) t + dC σ t else pl_len (dC σ) (toI (σ 37)) t
        rw [← hz, if_neg (by omega)]
      · have h : ¬ σ 37 (nI t).toNatClampNeg + σ 31 (nI t).toNatClampNeg ≤ z := h
        rw [dk_le, hadd] at h
        show (σ 37 (nI t).toNatClampNeg + σ 31 (nI t).toNatClampNeg).toInt = _
        rw [hadd]
        show _ = if pl_len (dC σ) (toI (σ 37)) t < toI (σ 37) t + dC σ t then toI (σ 37) t + dC σ t else pl_len (dC σ) (toI (σ 37)) t
        rw [← hz, if_pos (by omega)]
  refine hC.go (fun q => if q = 4 then some 3 else none) 60 ?_
  exact ⟨by decide, by decide, loop (nC σ) 0 0 (by omega) rfl⟩
def aL (σ : dk_S) : Nat → Bool := fun c => decide (aC σ c = true ∧ ¬ uC σ c = 30)
def ny (n : Nat) (f : Nat → Int32) : Nat → Int := fun j => if j < n then -(f j).toInt else 0
abbrev sp_latest : dk_M := dk_sp 2 false (fun x : Int32 => [.inr 30, .inl x]) (fun x σ => RN σ ∧ 0 ≤ x.toInt ∧ x.toInt ≤ 9001000 ∧ ∃ z, bf_sol (aC σ) (uC σ) (vC σ) (gC σ) (mC σ) z ∧ (∀ j, Pl (nC σ) j → z j ≤ l0 x.toInt (dC σ) j) ∧ z 30 = 0)
  (fun x σ _ σ' => ∃ f, σ' = dk_up σ 38 f ∧ GS (aC σ) (uC σ) (vC σ) (gC σ) (mC σ) (nC σ) (l0 x.toInt (dC σ)) (xv (nC σ) f))
set_option maxRecDepth 100000 in
set_option maxHeartbeats 8000000 in
theorem q_latest : dk_pure (kX7_latest, fX7, [], [], nX7, 6, false) sp_latest := by
  refine dk_sp_pure (fun x x' e => by cases e; rfl) (fun _ => rfl) ?_
  rintro OK al σ ⟨⟨hN, hn, hm, hdur, hcon, hoo⟩, hl1, hl2, z0, hz0, hz1, hz2⟩ hC
  have hn30 := hN.n30
  have hm120 := hN.m120
  obtain ⟨y0, hy0⟩ : ∃ y0 : Nat → Int, y0 = fun j => if j < nC σ then -(al.toInt - dC σ j) else 0 := ⟨_, rfl⟩
  have hy0b : ∀ j, j < 31 → -9001000 ≤ y0 j ∧ y0 j ≤ 1000 := fun j hj => by
    rw [hy0]
    show -9001000 ≤ (if j < nC σ then -(al.toInt - dC σ j) else 0) ∧ (if j < nC σ then -(al.toInt - dC σ j) else 0) ≤ 1000
    by_cases c : j < nC σ
    · rw [if_pos c]; have := hN.d c; omega
    · rw [if_neg c]; omega
  have hy0n : ∀ j, ¬ j < nC σ → y0 j = 0 := fun j hj => by rw [hy0]; exact if_neg hj
  obtain ⟨it, hit⟩ : ∃ it : Nat → Nat → Int, it = fun k => bf_iter (aL σ) (vC σ) (uC σ) (gC σ) (mC σ) k y0 := ⟨_, rfl⟩
  have it0 : it 0 = y0 := by rw [hit]; rfl
  have its : ∀ k, it (k + 1) = bf_pass (aL σ) (vC σ) (uC σ) (gC σ) (mC σ) (it k) := fun k => by rw [hit]; rfl
  have hstep_n : ∀ (x : Nat → Int), (∀ j, ¬ j < nC σ → x j = 0) → ∀ c, c ≤ mC σ → ∀ j, ¬ j < nC σ → bf_pass (aL σ) (vC σ) (uC σ) (gC σ) c x j = 0 := by
    intro x hx c
    induction c with
    | zero => intro _ j hj; exact hx j hj
    | succ c ih =>
      intro hc j hj
      have ih := ih (by omega)
      show bf_one (aL σ) (vC σ) (uC σ) (gC σ) (bf_pass (aL σ) (vC σ) (uC σ) (gC σ) c x) c j = 0
      unfold bf_one
      split
      · next q =>
        have q1 := (of_decide_eq_true q.1).2
        have hv := (hN.u (show c < mC σ by omega)).2.1
        try dsimp only
        rw [if_neg (by omega)]
        exact ih j hj
      · exact ih j hj
  have itn : ∀ k, ∀ j, ¬ j < nC σ → it k j = 0 := by
    intro k
    induction k with
    | zero => rw [it0]; exact hy0n
    | succ k ih => rw [its]; exact hstep_n (it k) ih (mC σ) (Nat.le_refl _)
  have hvb : ∀ c, c < mC σ → vC σ c < 31 := fun c hc => (hN.v hc).2.2
  have hgb : ∀ c, c < mC σ → -1000 ≤ gC σ c ∧ gC σ c ≤ 1000 := fun c hc => hN.g hc
  have itb : ∀ k : Nat, ∀ j, j < 31 → -(9001000 + 120000 * (k : Int)) ≤ it k j ∧ it k j ≤ 9001000 + 120000 * k := by
    intro k
    induction k with
    | zero => intro j hj; rw [it0]; have := hy0b j hj; omega
    | succ k ih =>
      intro j hj
      rw [its]
      have h2 := bf_pass_bg (a := aL σ) (v := uC σ) hvb hgb (B := 9001000 + 120000 * k) (x := it k) (fun j hj => by have := ih j hj; omega) (mC σ) (Nat.le_refl _) j hj
      have : (1000 : Int) * (mC σ : Int) ≤ 120000 := by omega
      have e : ((k + 1 : Nat) : Int) = (k : Int) + 1 := by omega
      rw [e]
      omega
  -- solutions, upside down
  have hflip : ∀ z : Nat → Int, bf_sol (aC σ) (uC σ) (vC σ) (gC σ) (mC σ) z → bf_sol (aL σ) (vC σ) (uC σ) (gC σ) (mC σ) (fun j => if j < nC σ ∨ j = 30 then -(z j) else y0 j) := by
    intro z hz c hc ha
    have ha := of_decide_eq_true ha
    have h1 := (hN.u hc).2.1
    have h2 := (hN.v hc).2.1
    have h3 := hz c hc ha.1
    try dsimp only
    rw [if_pos h1, if_pos h2]
    omega
  have hle0 : ∀ z : Nat → Int, (∀ j, Pl (nC σ) j → z j ≤ l0 al.toInt (dC σ) j) → ∀ j, y0 j ≤ (fun j => if j < nC σ ∨ j = 30 then -(z j) else y0 j) j := by
    intro z hz j
    try dsimp only
    by_cases c : j < nC σ ∨ j = 30
    · rw [if_pos c]
      have h1 := hz j c
      rw [hy0]
      show (if j < nC σ then -(al.toInt - dC σ j) else 0) ≤ _
      unfold l0 at h1
      by_cases c2 : j < nC σ
      · rw [if_neg (by omega)] at h1
        rw [if_pos c2]; omega
      · rw [if_pos (by omega)] at h1
        rw [if_neg c2]; omega
    · rw [if_neg c]; exact Int.le_refl _
  have hsol31 := bf_conv (a := aL σ) (u := vC σ) (v := uC σ) (g := gC σ) (m := mC σ) (N := 31) (x0 := y0) (fun c hc _ => ⟨(hN.v hc).2.2, (hN.u hc).2.2⟩) ⟨_, hflip z0 hz0, hle0 z0 hz1⟩
  have post : ∀ (f : Nat → Int32) (K : Nat), ny (nC σ) f = it K → bf_sol (aL σ) (vC σ) (uC σ) (gC σ) (mC σ) (it K) → ∃ f', dk_up σ 38 f = dk_up σ 38 f' ∧ GS (aC σ) (uC σ) (vC σ) (gC σ) (mC σ) (nC σ) (l0 al.toInt (dC σ)) (xv (nC σ) f') := by
    intro f K hf hs
    refine ⟨f, rfl, ?_⟩
    have ex : ∀ j, xv (nC σ) f j = -(it K j) := fun j => by
      rw [← hf]
      unfold xv ny
      split <;> omega
    have gr : ∀ z, bf_sol (aC σ) (uC σ) (vC σ) (gC σ) (mC σ) z → (∀ j, Pl (nC σ) j → z j ≤ l0 al.toInt (dC σ) j) → ∀ j, Pl (nC σ) j → z j ≤ xv (nC σ) f j := by
      intro z h1 h2 j hj
      have h3 := bf_iter_le (hle0 z h2) (hflip z h1) K j
      try dsimp only at h3
      rw [if_pos (show j < nC σ ∨ j = 30 from hj)] at h3
      rw [ex, hit]
      show z j ≤ -(bf_iter (aL σ) (vC σ) (uC σ) (gC σ) (mC σ) K y0 j)
      omega
    refine ⟨fun c hc ha => ?_, fun j hj => ?_, gr⟩
    · by_cases e : uC σ c = 30
      · have h30 : xv (nC σ) f 30 = 0 := if_neg (by omega)
        rw [e, h30]
        have h1 := gr z0 hz0 hz1 (vC σ c) (hN.v hc).2.1
        have h2 := hz0 c hc ha
        rw [e, hz2] at h2
        omega
      · have := hs c hc (decide_eq_true ⟨ha, e⟩)
        rw [ex, ex]
        omega
    · have h1 := bf_iter_ge (a := aL σ) (u := vC σ) (v := uC σ) (g := gC σ) (m := mC σ) y0 K j
      have h2 : y0 j ≤ it K j := by rw [hit]; exact h1
      rw [ex]
      rw [hy0] at h2
      have h2 : (if j < nC σ then -(al.toInt - dC σ j) else 0) ≤ it K j := h2
      unfold l0
      by_cases c : j < nC σ
      · rw [if_pos c] at h2
        rw [if_neg (by omega)]; omega
      · rw [if_neg c] at h2
        rcases hj with hj | hj
        · exact absurd hj c
        · rw [if_pos hj]; omega
  have dn : ∀ {c : Nat}, c < mC σ → (σ 35 c = 0 ↔ aC σ c = true) := fun {c} hc => by
    rw [(hcon c hc).2.2.2]
    unfold aC
    simp
  have outer : ∀ (e K : Nat) (mo : Int32) (f : Nat → Int32), K + e = 33 → ny (nC σ) f = it K → (mo = 1 ∨ (mo = 0 ∧ bf_sol (aL σ) (vC σ) (uC σ) (gC σ) (mC σ) (it K))) → OK 34 [(0, .inr 30), (1, .inl al), (2, .inl mo), (3, .inl (nI K))] [] (dk_up σ 38 f) := by
    intro e
    induction e with
    | zero =>
      intro K mo f hK hf hmo
      have hK : K = 33 := by omega
      subst hK
      have a2 := iter_stays hsol31 2
      have hs : bf_sol (aL σ) (vC σ) (uC σ) (gC σ) (mC σ) (it 33) := by
        rw [hit]
        show bf_sol (aL σ) (vC σ) (uC σ) (gC σ) (mC σ) (bf_iter (aL σ) (vC σ) (uC σ) (gC σ) (mC σ) (31 + 2) y0)
        rw [a2]
        exact hsol31
      refine hC.go (fun _ => none) 60 ?_
      exact ⟨fun _ => post f 33 hf hs, fun h => absurd (show nI 33 ≤ nI 33 by decide) h⟩
    | succ e ihK =>
      intro K mo f0 hK hf0 hmo
      refine hC.go (fun q => if q = 49 then some 5 else none) 60 ?_
      refine ⟨fun h => ?_, fun _ => ⟨fun h => post f0 K hf0 ?_, fun h => ⟨by decide, by decide, ?_⟩⟩⟩
      · exfalso
        have h : nI 33 ≤ nI K := h
        rw [nI_leI (by omega) (by omega)] at h
        omega
      · have h : mo = 0 := h
        rcases hmo with q | ⟨-, q⟩
        · rw [q] at h; exact absurd h i32_ne10
        · exact q
      have inner : ∀ (d c : Nat) (mo : Int32) (f : Nat → Int32), c + d = mC σ → ny (nC σ) f = bf_pass (aL σ) (vC σ) (uC σ) (gC σ) c (it K) → ((mo = 0 ∧ bf_pass (aL σ) (vC σ) (uC σ) (gC σ) c (it K) = it K) ∨ mo = 1) → OK 49 [(0, .inr 30), (1, .inl al), (2, .inl mo), (3, .inl (nI K)), (4, .inl (nI c))] [] (dk_up σ 38 f) := by
        intro d
        induction d with
        | zero =>
          intro c mo f hc hf hr
          have hcm : c = mC σ := by omega
          subst hcm
          have key := ihK (K + 1) mo f (by omega) (by rw [its]; exact hf) (by
            rcases hr with ⟨q1, q2⟩ | q1
            · right
              refine ⟨q1, ?_⟩
              rw [its, q2]
              exact bf_stable q2
            · exact Or.inl q1)
          refine hC.go (fun q => if q = 34 then some 4 else none) 60 ?_
          refine ⟨fun _ => ⟨by decide, ?_⟩, fun h => ?_⟩
          · rw [← nI_1 K] at key
            exact key
          · exfalso
            apply h
            show σ 30 1 ≤ nI (mC σ)
            rw [hm]
            exact Int32.le_refl _
        | succ d ih =>
          intro c mo f hc hf hr
          have hcm : c < mC σ := by omega
          have ec : (nI c).toNatClampNeg = c := nI_clamp (by omega)
          have hic : vp_in (nI c) 120 := vp_in_nI (by omega) (by omega)
          obtain ⟨hu1, hu2, hu3⟩ := hN.u hcm
          obtain ⟨hv1, hv2, hv3⟩ := hN.v hcm
          obtain ⟨k1, k2, k3, k4⟩ := hcon c hcm
          have hpass : bf_pass (aL σ) (vC σ) (uC σ) (gC σ) (c + 1) (it K) = bf_one (aL σ) (vC σ) (uC σ) (gC σ) (ny (nC σ) f) c := by
            rw [hf]; rfl
          have hbd := bf_pass_bg (a := aL σ) (v := uC σ) hvb hgb (B := 9001000 + 120000 * K) (x := it K) (fun j hj => by have := itb K j hj; omega) c (by omega)
          rw [← hf] at hbd
          have hnext : ∀ mo' f', ny (nC σ) f' = bf_pass (aL σ) (vC σ) (uC σ) (gC σ) (c + 1) (it K) → ((mo' = 0 ∧ bf_pass (aL σ) (vC σ) (uC σ) (gC σ) (c + 1) (it K) = it K) ∨ mo' = 1) → OK 49 [(0, .inr 30), (1, .inl al), (2, .inl mo'), (3, .inl (nI K)), (4, .inl (nI c + 1))] [] (dk_up σ 38 f') := by
            intro mo' f' h1 h2
            rw [nI_1]
            exact ih (c + 1) mo' f' (by omega) h1 h2
          have hskip : ¬ (aL σ c = true ∧ ny (nC σ) f (uC σ c) < ny (nC σ) f (vC σ c) + gC σ c) → OK 49 [(0, .inr 30), (1, .inl al), (2, .inl mo), (3, .inl (nI K)), (4, .inl (nI c + 1))] [] (dk_up σ 38 f) := by
            intro hno
            have e1 : bf_pass (aL σ) (vC σ) (uC σ) (gC σ) (c + 1) (it K) = bf_pass (aL σ) (vC σ) (uC σ) (gC σ) c (it K) := by
              rw [hpass]
              unfold bf_one
              rw [if_neg hno]
              exact hf
            refine hnext mo f (by rw [e1]; exact hf) ?_
            rw [e1]
            exact hr
          have hm' : (1000 : Int) * (c : Int) ≤ 120000 := by omega
          have at107 : aC σ c = true → ¬ uC σ c = 30 → ∀ z : Int32, z.toInt = -(ny (nC σ) f (vC σ c)) → OK 107 [(0, .inr 30), (1, .inl al), (2, .inl mo), (3, .inl (nI K)), (4, .inl (nI c))] [.inl z] (dk_up σ 38 f) := by
            intro ha hu z hz
            have hun : uC σ c < nC σ := by omega
            have e32 : σ 32 (nI c).toNatClampNeg = nI (uC σ c) := by rw [ec, k1, og_ne hu]
            have hiu : vp_in (σ 32 (nI c).toNatClampNeg) 30 := by rw [e32]; exact vp_in_nI (by omega) (by omega)
            have hg := hgb c hcm
            have hbv := hbd (vC σ c) hv3
            have ha' : aL σ c = true := decide_eq_true ⟨ha, hu⟩
            obtain ⟨w, hw⟩ : ∃ w, w = z - σ 34 (nI c).toNatClampNeg := ⟨_, rfl⟩
            have hwi : w.toInt = -(ny (nC σ) f (vC σ c)) - gC σ c := by
              rw [hw, ec, k3, ← hz]
              exact dk_sub (by unfold gC at hg; rw [hz]; omega) (by unfold gC at hg; rw [hz]; omega)
            have eu : (f (uC σ c)).toInt = -(ny (nC σ) f (uC σ c)) := by
              unfold ny
              rw [if_pos hun]
              omega
            refine hC.go (fun q => if q = 49 then some 5 else none) 60 ?_
            refine ⟨120, rfl, hic, by decide, 120, rfl, hic, 30, rfl, hiu, fun h => ⟨120, rfl, hic, 30, rfl, hiu, by decide, by decide, ?_⟩, fun h => ⟨by decide, hskip (fun q => ?_)⟩⟩
            · have h : z - σ 34 (nI c).toNatClampNeg < f (σ 32 (nI c).toNatClampNeg).toNatClampNeg := h
              rw [← hw, e32, nI_clamp (show uC σ c < 2147483648 by omega), dk_lt, hwi, eu] at h
              show OK 49 [(0, .inr 30), (1, .inl al), (2, .inl 1), (3, .inl (nI K)), (4, .inl (nI c + 1))] [] (dk_up (dk_up σ 38 f) 38 (upd f (σ 32 (nI c).toNatClampNeg).toNatClampNeg (z - σ 34 (nI c).toNatClampNeg)))
              rw [dk_up_up, ← hw, e32, nI_clamp (show uC σ c < 2147483648 by omega)]
              refine hnext 1 (upd f (uC σ c) w) ?_ (Or.inr rfl)
              rw [hpass]
              unfold bf_one
              rw [if_pos ⟨ha', by omega⟩]
              funext j
              by_cases e : j = uC σ c
              · show ny (nC σ) (upd f (uC σ c) w) j = if j = uC σ c then ny (nC σ) f (vC σ c) + gC σ c else ny (nC σ) f j
                rw [if_pos e]
                have : ny (nC σ) (upd f (uC σ c) w) j = -(w.toInt) := by
                  unfold ny upd
                  rw [if_pos (by omega), if_pos e]
                rw [this, hwi]
                omega
              · show ny (nC σ) (upd f (uC σ c) w) j = if j = uC σ c then ny (nC σ) f (vC σ c) + gC σ c else ny (nC σ) f j
                rw [if_neg e]
                unfold ny upd
                rw [if_neg e]
            · have h : ¬ z - σ 34 (nI c).toNatClampNeg < f (σ 32 (nI c).toNatClampNeg).toNatClampNeg := h
              rw [← hw, e32, nI_clamp (show uC σ c < 2147483648 by omega), dk_lt, hwi, eu] at h
              have := q.2
              omega
          refine hC.go (fun q => if q = 49 ∨ q = 107 then some 5 else none) 60 ?_
          refine ⟨fun h => ?_, fun _ => ⟨120, rfl, hic, fun h2 => ⟨by decide, hskip (fun q => ?_)⟩, fun h2 => ⟨120, rfl, hic, fun h3 => ⟨120, rfl, hic, fun h4 => ⟨120, rfl, hic, 30, rfl, ?_, at107 ?_ ?_ _ ?_⟩, fun h4 => at107 ?_ ?_ _ ?_⟩, fun h3 => ⟨by decide, hskip (fun q => ?_)⟩⟩⟩⟩
          · exfalso
            have h : σ 30 1 ≤ nI c := h
            rw [hm] at h
            exact nI_ge hcm (by omega) h
          · have h2 : ¬ σ 35 (nI c).toNatClampNeg = 0 := h2
            rw [ec, dn hcm] at h2
            exact h2 (of_decide_eq_true q.1).1
          all_goals
            have h2 : ¬ ¬ σ 35 (nI c).toNatClampNeg = 0 := h2
            rw [ec, dn hcm] at h2
            have h2 := Classical.not_not.mp h2
          · have h4 : 0 ≤ σ 33 (nI c).toNatClampNeg := h4
            rw [ec, k2, og_lt hv3] at h4
            show vp_in (σ 33 (nI c).toNatClampNeg) 30
            rw [ec, k2, og_ne h4]
            exact vp_in_nI (by omega) (by omega)
          · exact h2
          · have h3 : 0 ≤ σ 32 (nI c).toNatClampNeg := h3
            rw [ec, k1, og_lt hu3] at h3
            exact h3
          · have h4 : 0 ≤ σ 33 (nI c).toNatClampNeg := h4
            rw [ec, k2, og_lt hv3] at h4
            show (f (σ 33 (nI c).toNatClampNeg).toNatClampNeg).toInt = _
            rw [ec, k2, og_ne h4, nI_clamp (by omega)]
            unfold ny
            rw [if_pos (by omega)]
            omega
          · exact h2
          · have h3 : 0 ≤ σ 32 (nI c).toNatClampNeg := h3
            rw [ec, k1, og_lt hu3] at h3
            exact h3
          · have h4 : ¬ 0 ≤ σ 33 (nI c).toNatClampNeg := h4
            rw [ec, k2, og_lt hv3] at h4
            have h4 := Classical.not_not.mp h4
            rw [h4]
            unfold ny
            rw [if_neg (by omega)]
            rfl
          · have h3 : ¬ 0 ≤ σ 32 (nI c).toNatClampNeg := h3
            rw [ec, k1, og_lt hu3] at h3
            exact h3 (of_decide_eq_true q.1).2
      exact inner (mC σ) 0 0 f0 (by omega) (by rw [hf0]; rfl) (Or.inl ⟨rfl, rfl⟩)
  have first : ∀ (e t : Nat) (f : Nat → Int32), t + e = nC σ → (∀ j, j < t → (f j).toInt = al.toInt - dC σ j) → OK 2 [(0, .inr 30), (1, .inl al), (2, .inl (nI t))] [] (dk_up σ 38 f) := by
    intro e
    induction e with
    | zero =>
      intro t f ht hf
      have ht : t = nC σ := by omega
      subst ht
      have key := outer 33 0 1 f (by omega) (by
        rw [it0, hy0]
        funext j
        unfold ny
        by_cases c : j < nC σ
        · rw [if_pos c, if_pos c, hf j c]
        · rw [if_neg c, if_neg c]) (Or.inl rfl)
      refine hC.go (fun q => if q = 34 then some 4 else none) 60 ?_
      refine ⟨fun _ => ⟨by decide, by decide, key⟩, fun h => ?_⟩
      exfalso
      apply h
      show σ 30 0 ≤ nI (nC σ)
      rw [hn]
      exact Int32.le_refl _
    | succ e ih =>
      intro t f ht hf
      have et : (nI t).toNatClampNeg = t := nI_clamp (by omega)
      have hit : vp_in (nI t) 30 := vp_in_nI (by omega) (by omega)
      have hd := hN.d (show t < nC σ by omega)
      refine hC.go (fun q => if q = 2 then some 3 else none) 60 ?_
      refine ⟨fun h => ?_, fun _ => ⟨30, rfl, hit, 30, rfl, hit, by decide, ?_⟩⟩
      · exfalso
        have h : σ 30 0 ≤ nI t := h
        rw [hn, nI_leI (by omega) (by omega)] at h
        omega
      · show OK 2 [(0, .inr 30), (1, .inl al), (2, .inl (nI t + 1))] [] (dk_up (dk_up σ 38 f) 38 (upd f (nI t).toNatClampNeg (al - σ 31 (nI t).toNatClampNeg)))
        rw [dk_up_up, et, nI_1, hdur t (by omega)]
        refine ih (t + 1) _ (by omega) (fun j hj => ?_)
        unfold upd
        by_cases c : j = t
        · rw [if_pos c, c]
          exact dk_sub (by unfold dC at hd; omega) (by unfold dC at hd; omega)
        · rw [if_neg c]; exact hf j (by omega)
  refine hC.go (fun q => if q = 2 then some 3 else none) 60 ?_
  refine ⟨by decide, ?_⟩
  have key := first (nC σ) 0 (σ 38) (by omega) (fun j hj => by omega)
  rw [dk_up_id] at key
  exact key
