/-! Times.find -/
def Pl (n j : Nat) : Prop := j < n ∨ j = 30
/-- the earliest: the least starts that keep all, with the origin's 0 -/
def ES (a : Nat → Bool) (u v : Nat → Nat) (g : Nat → Int) (m : Nat) (x : Nat → Int) : Prop := bf_sol a u v g m x ∧ (∀ j, j < 31 → 0 ≤ x j) ∧ x 30 = 0 ∧ ∀ z, bf_sol a u v g m z → (∀ j, j < 31 → 0 ≤ z j) → ∀ j, j < 31 → x j ≤ z j
def FE (a : Nat → Bool) (u v : Nat → Nat) (g : Nat → Int) (m : Nat) : Prop := ∃ z, bf_sol a u v g m z ∧ (∀ j, j < 31 → 0 ≤ z j) ∧ z 30 = 0
/-- the latest: the greatest starts not above l0 -/
def GS (a : Nat → Bool) (u v : Nat → Nat) (g : Nat → Int) (m n : Nat) (l0 x : Nat → Int) : Prop := bf_sol a u v g m x ∧ (∀ j, Pl n j → x j ≤ l0 j) ∧ ∀ z, bf_sol a u v g m z → (∀ j, Pl n j → z j ≤ l0 j) → ∀ j, Pl n j → z j ≤ x j
def l0 (len : Int) (d : Nat → Int) : Nat → Int := fun j => if j = 30 then 0 else len - d j
theorem ls_ES {a : Nat → Bool} {u v : Nat → Nat} {g : Nat → Int} {m : Nat} {x0 x : Nat → Int} (hN : ∀ c, c < m → u c < 31 ∧ v c < 31) (hx0 : ∀ j, j < 31 → x0 j = 0) (h : bf_ls a u v g m x0 x) (h30 : x 30 ≤ 0) : ES a u v g m x := by
  obtain ⟨h1, h2, h3⟩ := h
  refine ⟨h1, fun j hj => by rw [← hx0 j hj]; exact h2 j, ?_, fun z hz1 hz2 j hj => ?_⟩
  · have := h2 30
    rw [hx0 30 (by omega)] at this
    omega
  · have := h3 (fun j => if j < 31 then z j else x j) (fun c hc ha => by
      obtain ⟨q1, q2⟩ := hN c hc
      try dsimp only
      rw [if_pos q1, if_pos q2]
      exact hz1 c hc ha) (fun j => by
      try dsimp only
      split
      · next q => rw [hx0 j q]; exact hz2 j q
      · exact h2 j) j
    try dsimp only at this
    rw [if_pos hj] at this
    exact this
theorem no_FE {a : Nat → Bool} {u v : Nat → Nat} {g : Nat → Int} {m : Nat} {x0 : Nat → Int} (hN : ∀ c, c < m → u c < 31 ∧ v c < 31) (hx0 : ∀ j, j < 31 → x0 j = 0) (h : ¬ ∃ z, bf_sol a u v g m z ∧ (∀ j, x0 j ≤ z j) ∧ z 30 ≤ 0) : ¬ FE a u v g m := by
  rintro ⟨z, h1, h2, h3⟩
  refine h ⟨fun j => if j < 31 then z j else x0 j, fun c hc ha => ?_, fun j => ?_, ?_⟩
  · obtain ⟨q1, q2⟩ := hN c hc
    try dsimp only
    rw [if_pos q1, if_pos q2]
    exact h1 c hc ha
  · try dsimp only
    split
    · next q => rw [hx0 j q]; exact h2 j q
    · exact Int.le_refl _
  · try dsimp only
    rw [if_pos (by omega)]
    omega
abbrev sp_find : dk_M := dk_sp 1 true (fun T : Nat => [.inr T]) (fun T σ => (T = 9 ∨ T = 12) ∧ NW σ ∧ bd 5000000 (σ (T + 2)))
  (fun T σ r σ' => ∃ c f h, σ' = dk_up (dk_up (dk_up σ T c) (T + 1) f) (T + 2) h ∧ c 1 = σ 1 0 ∧ bd 4000000 f ∧ bd 5000000 h ∧ ((r = 1 ∧ ES (aC σ) (uC σ) (vC σ) (gC σ) (mC σ) (toI f) ∧ (c 2).toInt = pl_len (dC σ) (toI f) (nC σ) ∧ GS (aC σ) (uC σ) (vC σ) (gC σ) (mC σ) (nC σ) (l0 (c 2).toInt (dC σ)) (toI h)) ∨ (r = 0 ∧ ¬ FE (aC σ) (uC σ) (vC σ) (gC σ) (mC σ))))
set_option maxRecDepth 100000 in
set_option maxHeartbeats 2000000 in
theorem q_find_9 (OK : Nat → dk_L → List dk_V → dk_S → Prop) (σ : dk_S) (hN : NW σ) (hB : bd 5000000 (σ 11)) (hC : dk_ok (kX5_find, fX5, [(28, sp_ffe), (44, sp_lowerAll)], [(22, sp_fill)], [], 2, true) (fun r σ' => ∃ c f h, σ' = dk_up (dk_up (dk_up σ 9 c) 10 f) 11 h ∧ c 1 = σ 1 0 ∧ bd 4000000 f ∧ bd 5000000 h ∧ ((r = 1 ∧ ES (aC σ) (uC σ) (vC σ) (gC σ) (mC σ) (toI f) ∧ (c 2).toInt = pl_len (dC σ) (toI f) (nC σ) ∧ GS (aC σ) (uC σ) (vC σ) (gC σ) (mC σ) (nC σ) (l0 (c 2).toInt (dC σ)) (toI h)) ∨ (r = 0 ∧ ¬ FE (aC σ) (uC σ) (vC σ) (gC σ) (mC σ)))) OK) : OK 0 [(0, .inr 9)] [] σ := by
  have hNN : ∀ c, c < mC σ → uC σ c < 31 ∧ vC σ c < 31 := fun c hc => ⟨(hN.u hc).2.2, (hN.v hc).2.2⟩
  have hn30 := hN.n30
  refine hC.go (fun q => if q = 19 then some 2 else none) 60 ?_
  refine dk_cs (10, 0) rfl rfl rfl ⟨31, rfl⟩ (fun _ σ1 hq => ?_)
  have hq := hq 31 rfl
  subst hq
  have hx0 : ∀ j, j < 31 → toI (dk_up σ 10 (fun j => if j < 31 then (0 : Int32) else σ 10 j) 10) j = 0 := fun j hj => by
    rw [dk_up_self]
    unfold toI
    try dsimp only
    rw [if_pos hj]
    rfl
  refine dk_cs 9 rfl rfl rfl ⟨Or.inl rfl, hN.up (by decide), fun j hj => by have := hx0 j hj; unfold toI at this; show -10000000 ≤ (dk_up σ 10 (fun j => if j < 31 then (0 : Int32) else σ 10 j) 10 j).toInt ∧ (dk_up σ 10 (fun j => if j < 31 then (0 : Int32) else σ 10 j) 10 j).toInt ≤ 10000000; omega, by have := hx0 30 (by omega); unfold toI at this; show (dk_up σ 10 (fun j => if j < 31 then (0 : Int32) else σ 10 j) 10 30).toInt ≤ 0; omega, fun t ht => by have := hx0 t (by omega); unfold toI at this; show 0 ≤ (dk_up σ 10 (fun j => if j < 31 then (0 : Int32) else σ 10 j) 10 t).toInt; omega⟩ (fun r σ2 hq => ?_)
  obtain ⟨c, f, hσ, hc1, hfb, hge, hr⟩ := hq
  have hσ : σ2 = dk_up (dk_up (dk_up σ 10 (fun j => if j < 31 then (0 : Int32) else σ 10 j)) 9 c) 10 f := hσ
  rw [dk_up_comm (show ¬ 10 = 9 by decide), dk_up_up] at hσ
  subst hσ
  have hfb : bd 4000000 f := by
    have := hfb 0 (by decide) (fun j hj => by have := hx0 j hj; unfold toI at this; show -0 ≤ (dk_up σ 10 (fun j => if j < 31 then (0 : Int32) else σ 10 j) 10 j).toInt ∧ (dk_up σ 10 (fun j => if j < 31 then (0 : Int32) else σ 10 j) 10 j).toInt ≤ 0; omega)
    intro j hj
    have := this j hj
    omega
  have hr : (r = 1 ∧ bf_ls (aC σ) (uC σ) (vC σ) (gC σ) (mC σ) (toI (dk_up σ 10 (fun j => if j < 31 then (0 : Int32) else σ 10 j) 10)) (toI f) ∧ (f 30).toInt ≤ 0 ∧ (c 2).toInt = pl_len (dC σ) (toI f) (nC σ)) ∨ (r = 0 ∧ ¬ ∃ z, bf_sol (aC σ) (uC σ) (vC σ) (gC σ) (mC σ) z ∧ (∀ j, toI (dk_up σ 10 (fun j => if j < 31 then (0 : Int32) else σ 10 j) 10) j ≤ z j) ∧ z 30 ≤ 0) := hr
  refine ⟨fun h => ?_, fun h => ⟨Or.inl rfl, c, f, σ 11, ?_, hc1, hfb, hB, Or.inr ⟨rfl, ?_⟩⟩⟩
  · have h : ¬ r = 0 := h
    rcases hr with ⟨-, hls, h30, hlen⟩ | ⟨hr, -⟩
    · have hES := ls_ES hNN hx0 hls h30
      refine ⟨by decide, ?_⟩
      have hd : ∀ t, t < nC σ → 0 ≤ dC σ t ∧ dC σ t ≤ 1000 := fun t ht => hN.d ht
      have hlb := pl_len_le (d := dC σ) (x := toI f) (B := 4001000) (by decide) (n := nC σ) (fun t ht => by
        have h1 := hfb t (by omega)
        have h2 := hd t ht
        unfold toI
        omega)
      rw [← hlen] at hlb
      have loop : ∀ (d t : Nat) (h : Nat → Int32), t + d = nC σ → (∀ j, j < t → (h j).toInt = (c 2).toInt - dC σ j) → (∀ j, ¬ j < t → h j = σ 11 j) → OK 19 [(0, .inr 9), (1, .inl (nI t))] [] (dk_up (dk_up (dk_up σ 9 c) 10 f) 11 h) := by
        intro d
        induction d with
        | zero =>
          intro t h ht h1 h2
          have ht : t = nC σ := by omega
          subst ht
          refine hC.go (fun q => if q = 19 then some 2 else none) 60 ?_
          refine ⟨fun _ => ⟨31, rfl, vp_in_nI (show 30 < 31 by omega) (by omega), ?_⟩, fun hn => ?_⟩
          · have hS : dk_up (dk_up (dk_up (dk_up σ 9 c) 10 f) 11 h) 11 (upd h 30 0) = dk_up (dk_up (dk_up σ 9 c) 10 f) 11 (upd h 30 0) := dk_up_up
            have hh0 : ∀ j, Pl (nC σ) j → toI (upd h 30 0) j = l0 (c 2).toInt (dC σ) j := by
              intro j hj
              unfold toI upd l0
              by_cases e : j = 30
              · rw [if_pos e, if_pos e]; rfl
              · rw [if_neg e, if_neg e]
                rcases hj with hj | hj
                · exact h1 j hj
                · exact absurd hj e
            have hh1 : ∀ j, ¬ Pl (nC σ) j → upd h 30 0 j = σ 11 j := by
              intro j hj
              unfold upd
              rw [if_neg (fun e => hj (Or.inr e))]
              exact h2 j (fun e => hj (Or.inl e))
            have hup : ∀ j, toI f j ≤ l0 (c 2).toInt (dC σ) j ∨ ¬ Pl (nC σ) j := by
              intro j
              by_cases e : Pl (nC σ) j
              · left
                unfold l0
                rcases e with e | e
                · rw [if_neg (by omega)]
                  have := pl_len_ge (dC σ) (toI f) e
                  rw [hlen]
                  omega
                · rw [if_pos e, e]
                  unfold toI
                  omega
              · exact Or.inr e
            have hzs : bf_sol (aC σ) (uC σ) (vC σ) (gC σ) (mC σ) (fun j => if j < nC σ ∨ j = 30 then toI f j else toI (upd h 30 0) j) := by
              intro q hq ha
              try dsimp only
              rw [if_pos (hN.u hq).2.1, if_pos (hN.v hq).2.1]
              exact hES.1 q hq ha
            have hzl : ∀ j, (fun j => if j < nC σ ∨ j = 30 then toI f j else toI (upd h 30 0) j) j ≤ toI (upd h 30 0) j := by
              intro j
              try dsimp only
              split
              · next e =>
                rw [hh0 j e]
                rcases hup j with q | q
                · exact q
                · exact absurd e q
              · exact Int.le_refl _
            have hb0 : bd 5000000 (upd h 30 0) := by
              intro j hj
              by_cases e : Pl (nC σ) j
              · have e1 := hh0 j e
                unfold toI at e1
                rw [e1]
                unfold l0
                split
                · omega
                · rcases e with e | e
                  · have := hd j e; omega
                  · omega
              · rw [hh1 j e]
                exact hB j hj
            refine dk_cs 11 rfl rfl rfl ⟨⟨rfl, by decide⟩, (((hN.up (by decide)).up (by decide)).up (by decide)).up (by decide), fun j hj => by have := hb0 j hj; show -10000000 ≤ (upd h 30 0 j).toInt ∧ (upd h 30 0 j).toInt ≤ 10000000; omega, _, hzs, hzl⟩ (fun r9 σ3 hq => ?_)
            obtain ⟨h', hσ3, hls'⟩ := hq
            have hσ3 : σ3 = dk_up (dk_up (dk_up (dk_up (dk_up σ 9 c) 10 f) 11 h) 11 (upd h 30 0)) 11 h' := hσ3
            rw [dk_up_up, dk_up_up] at hσ3
            subst hσ3
            have hls' : bf_ls (aC σ) (vC σ) (uC σ) (gC σ) (mC σ) (fun j => -toI (upd h 30 0) j) (fun j => -toI h' j) := hls'
            have hle : ∀ j, toI h' j ≤ toI (upd h 30 0) j := fun j => by have := hls'.2.1 j; dsimp only at this; omega
            have hgr : ∀ z, bf_sol (aC σ) (uC σ) (vC σ) (gC σ) (mC σ) z → (∀ j, z j ≤ toI (upd h 30 0) j) → ∀ j, z j ≤ toI h' j := by
              intro z hz1 hz2 j
              have := hls'.2.2 (fun j => -z j) (fun q hq ha => by have := hz1 q hq ha; dsimp only; omega) (fun j => by have := hz2 j; dsimp only; omega) j
              try dsimp only at this
              omega
            refine ⟨Or.inr rfl, c, f, h', rfl, hc1, hfb, ?_, Or.inl ⟨rfl, hES, hlen, ?_, ?_, ?_⟩⟩
            · intro j hj
              have q1 := hle j
              have q2 := hgr _ hzs hzl j
              have q3 := hb0 j hj
              try dsimp only at q2
              unfold toI at q1 q2
              split at q2
              · have q4 := hES.2.1 j hj
                unfold toI at q4
                omega
              · omega
            · intro q hq ha
              have := hls'.1 q hq ha
              try dsimp only at this
              omega
            · intro j hj
              rw [← hh0 j hj]
              exact hle j
            · intro z hz1 hz2 j hj
              have := hgr (fun j => if j < nC σ ∨ j = 30 then z j else toI (upd h 30 0) j) (fun q hq ha => by
                try dsimp only
                rw [if_pos (hN.u hq).2.1, if_pos (hN.v hq).2.1]
                exact hz1 q hq ha) (fun j => by
                try dsimp only
                split
                · next e => rw [hh0 j e]; exact hz2 j e
                · exact Int.le_refl _) j
              try dsimp only at this
              rw [if_pos (show j < nC σ ∨ j = 30 from hj)] at this
              exact this
          · exfalso
            apply hn
            show c 1 ≤ nI (nC σ)
            rw [hc1]
            show σ 1 0 ≤ nI (nC σ)
            rw [hN.n]
            exact Int32.le_refl _
        | succ d ih =>
          intro t h ht h1 h2
          have et : (nI t).toNatClampNeg = t := nI_clamp (by omega)
          have hdt := hd t (by omega)
          have hsub : (c 2 - σ 2 t).toInt = (c 2).toInt - dC σ t := dk_sub (by unfold dC at hdt; omega) (by unfold dC at hdt; omega)
          refine hC.go (fun q => if q = 19 then some 2 else none) 60 ?_
          refine ⟨fun hn => ?_, fun _ => ⟨30, rfl, vp_in_nI (by omega) (by omega), 31, rfl, vp_in_nI (by omega) (by omega), by decide, ?_⟩⟩
          · exfalso
            have hn : c 1 ≤ nI t := hn
            rw [hc1] at hn
            have hn : σ 1 0 ≤ nI t := hn
            rw [hN.n] at hn
            exact nI_ge (by omega) (by omega) hn
          · have key := ih (t + 1) (upd h t (c 2 - σ 2 t)) (by omega) (fun j hj => by
              unfold upd
              by_cases e : j = t
              · rw [if_pos e, e]; exact hsub
              · rw [if_neg e]; exact h1 j (by omega)) (fun j hj => by
              unfold upd
              rw [if_neg (by omega)]
              exact h2 j (by omega))
            rw [← nI_1, ← dk_up_up (f := h)] at key
            have e : upd (dk_up (dk_up (dk_up σ 9 c) 10 f) 11 h 11) (nI t).toNatClampNeg (c 2 - σ 2 (nI t).toNatClampNeg) = upd h t (c 2 - σ 2 t) := by
              rw [et, dk_up_self]
            rw [← e] at key
            exact key
      have key := loop (nC σ) 0 (σ 11) (by omega) (fun j hj => by omega) (fun j _ => rfl)
      have e : dk_up (dk_up (dk_up σ 9 c) 10 f) 11 (σ 11) = dk_up (dk_up σ 9 c) 10 f := dk_up_id (σ := dk_up (dk_up σ 9 c) 10 f) (k := 11)
      rw [e] at key
      exact key
    · exact absurd hr h
  · exact (dk_up_id (σ := dk_up (dk_up σ 9 c) 10 f) (k := 11)).symm
  · have h : ¬ ¬ r = 0 := h
    rcases hr with ⟨hr, -⟩ | ⟨-, hr⟩
    · exact absurd (fun q => by rw [hr] at q; exact absurd q (by decide)) h
    · exact no_FE hNN hx0 hr
set_option maxRecDepth 100000 in
set_option maxHeartbeats 2000000 in
theorem q_find_12 (OK : Nat → dk_L → List dk_V → dk_S → Prop) (σ : dk_S) (hN : NW σ) (hB : bd 5000000 (σ 14)) (hC : dk_ok (kX5_find, fX5, [(28, sp_ffe), (44, sp_lowerAll)], [(22, sp_fill)], [], 2, true) (fun r σ' => ∃ c f h, σ' = dk_up (dk_up (dk_up σ 12 c) 13 f) 14 h ∧ c 1 = σ 1 0 ∧ bd 4000000 f ∧ bd 5000000 h ∧ ((r = 1 ∧ ES (aC σ) (uC σ) (vC σ) (gC σ) (mC σ) (toI f) ∧ (c 2).toInt = pl_len (dC σ) (toI f) (nC σ) ∧ GS (aC σ) (uC σ) (vC σ) (gC σ) (mC σ) (nC σ) (l0 (c 2).toInt (dC σ)) (toI h)) ∨ (r = 0 ∧ ¬ FE (aC σ) (uC σ) (vC σ) (gC σ) (mC σ)))) OK) : OK 0 [(0, .inr 12)] [] σ := by
  have hNN : ∀ c, c < mC σ → uC σ c < 31 ∧ vC σ c < 31 := fun c hc => ⟨(hN.u hc).2.2, (hN.v hc).2.2⟩
  have hn30 := hN.n30
  refine hC.go (fun q => if q = 19 then some 2 else none) 60 ?_
  refine dk_cs (13, 0) rfl rfl rfl ⟨31, rfl⟩ (fun _ σ1 hq => ?_)
  have hq := hq 31 rfl
  subst hq
  have hx0 : ∀ j, j < 31 → toI (dk_up σ 13 (fun j => if j < 31 then (0 : Int32) else σ 13 j) 13) j = 0 := fun j hj => by
    rw [dk_up_self]
    unfold toI
    try dsimp only
    rw [if_pos hj]
    rfl
  refine dk_cs 12 rfl rfl rfl ⟨Or.inr rfl, hN.up (by decide), fun j hj => by have := hx0 j hj; unfold toI at this; show -10000000 ≤ (dk_up σ 13 (fun j => if j < 31 then (0 : Int32) else σ 13 j) 13 j).toInt ∧ (dk_up σ 13 (fun j => if j < 31 then (0 : Int32) else σ 13 j) 13 j).toInt ≤ 10000000; omega, by have := hx0 30 (by omega); unfold toI at this; show (dk_up σ 13 (fun j => if j < 31 then (0 : Int32) else σ 13 j) 13 30).toInt ≤ 0; omega, fun t ht => by have := hx0 t (by omega); unfold toI at this; show 0 ≤ (dk_up σ 13 (fun j => if j < 31 then (0 : Int32) else σ 13 j) 13 t).toInt; omega⟩ (fun r σ2 hq => ?_)
  obtain ⟨c, f, hσ, hc1, hfb, hge, hr⟩ := hq
  have hσ : σ2 = dk_up (dk_up (dk_up σ 13 (fun j => if j < 31 then (0 : Int32) else σ 13 j)) 12 c) 13 f := hσ
  rw [dk_up_comm (show ¬ 13 = 12 by decide), dk_up_up] at hσ
  subst hσ
  have hfb : bd 4000000 f := by
    have := hfb 0 (by decide) (fun j hj => by have := hx0 j hj; unfold toI at this; show -0 ≤ (dk_up σ 13 (fun j => if j < 31 then (0 : Int32) else σ 13 j) 13 j).toInt ∧ (dk_up σ 13 (fun j => if j < 31 then (0 : Int32) else σ 13 j) 13 j).toInt ≤ 0; omega)
    intro j hj
    have := this j hj
    omega
  have hr : (r = 1 ∧ bf_ls (aC σ) (uC σ) (vC σ) (gC σ) (mC σ) (toI (dk_up σ 13 (fun j => if j < 31 then (0 : Int32) else σ 13 j) 13)) (toI f) ∧ (f 30).toInt ≤ 0 ∧ (c 2).toInt = pl_len (dC σ) (toI f) (nC σ)) ∨ (r = 0 ∧ ¬ ∃ z, bf_sol (aC σ) (uC σ) (vC σ) (gC σ) (mC σ) z ∧ (∀ j, toI (dk_up σ 13 (fun j => if j < 31 then (0 : Int32) else σ 13 j) 13) j ≤ z j) ∧ z 30 ≤ 0) := hr
  refine ⟨fun h => ?_, fun h => ⟨Or.inl rfl, c, f, σ 14, ?_, hc1, hfb, hB, Or.inr ⟨rfl, ?_⟩⟩⟩
  · have h : ¬ r = 0 := h
    rcases hr with ⟨-, hls, h30, hlen⟩ | ⟨hr, -⟩
    · have hES := ls_ES hNN hx0 hls h30
      refine ⟨by decide, ?_⟩
      have hd : ∀ t, t < nC σ → 0 ≤ dC σ t ∧ dC σ t ≤ 1000 := fun t ht => hN.d ht
      have hlb := pl_len_le (d := dC σ) (x := toI f) (B := 4001000) (by decide) (n := nC σ) (fun t ht => by
        have h1 := hfb t (by omega)
        have h2 := hd t ht
        unfold toI
        omega)
      rw [← hlen] at hlb
      have loop : ∀ (d t : Nat) (h : Nat → Int32), t + d = nC σ → (∀ j, j < t → (h j).toInt = (c 2).toInt - dC σ j) → (∀ j, ¬ j < t → h j = σ 14 j) → OK 19 [(0, .inr 12), (1, .inl (nI t))] [] (dk_up (dk_up (dk_up σ 12 c) 13 f) 14 h) := by
        intro d
        induction d with
        | zero =>
          intro t h ht h1 h2
          have ht : t = nC σ := by omega
          subst ht
          refine hC.go (fun q => if q = 19 then some 2 else none) 60 ?_
          refine ⟨fun _ => ⟨31, rfl, vp_in_nI (show 30 < 31 by omega) (by omega), ?_⟩, fun hn => ?_⟩
          · have hS : dk_up (dk_up (dk_up (dk_up σ 12 c) 13 f) 14 h) 14 (upd h 30 0) = dk_up (dk_up (dk_up σ 12 c) 13 f) 14 (upd h 30 0) := dk_up_up
            have hh0 : ∀ j, Pl (nC σ) j → toI (upd h 30 0) j = l0 (c 2).toInt (dC σ) j := by
              intro j hj
              unfold toI upd l0
              by_cases e : j = 30
              · rw [if_pos e, if_pos e]; rfl
              · rw [if_neg e, if_neg e]
                rcases hj with hj | hj
                · exact h1 j hj
                · exact absurd hj e
            have hh1 : ∀ j, ¬ Pl (nC σ) j → upd h 30 0 j = σ 14 j := by
              intro j hj
              unfold upd
              rw [if_neg (fun e => hj (Or.inr e))]
              exact h2 j (fun e => hj (Or.inl e))
            have hup : ∀ j, toI f j ≤ l0 (c 2).toInt (dC σ) j ∨ ¬ Pl (nC σ) j := by
              intro j
              by_cases e : Pl (nC σ) j
              · left
                unfold l0
                rcases e with e | e
                · rw [if_neg (by omega)]
                  have := pl_len_ge (dC σ) (toI f) e
                  rw [hlen]
                  omega
                · rw [if_pos e, e]
                  unfold toI
                  omega
              · exact Or.inr e
            have hzs : bf_sol (aC σ) (uC σ) (vC σ) (gC σ) (mC σ) (fun j => if j < nC σ ∨ j = 30 then toI f j else toI (upd h 30 0) j) := by
              intro q hq ha
              try dsimp only
              rw [if_pos (hN.u hq).2.1, if_pos (hN.v hq).2.1]
              exact hES.1 q hq ha
            have hzl : ∀ j, (fun j => if j < nC σ ∨ j = 30 then toI f j else toI (upd h 30 0) j) j ≤ toI (upd h 30 0) j := by
              intro j
              try dsimp only
              split
              · next e =>
                rw [hh0 j e]
                rcases hup j with q | q
                · exact q
                · exact absurd e q
              · exact Int.le_refl _
            have hb0 : bd 5000000 (upd h 30 0) := by
              intro j hj
              by_cases e : Pl (nC σ) j
              · have e1 := hh0 j e
                unfold toI at e1
                rw [e1]
                unfold l0
                split
                · omega
                · rcases e with e | e
                  · have := hd j e; omega
                  · omega
              · rw [hh1 j e]
                exact hB j hj
            refine dk_cs 14 rfl rfl rfl ⟨⟨rfl, by decide⟩, (((hN.up (by decide)).up (by decide)).up (by decide)).up (by decide), fun j hj => by have := hb0 j hj; show -10000000 ≤ (upd h 30 0 j).toInt ∧ (upd h 30 0 j).toInt ≤ 10000000; omega, _, hzs, hzl⟩ (fun r9 σ3 hq => ?_)
            obtain ⟨h', hσ3, hls'⟩ := hq
            have hσ3 : σ3 = dk_up (dk_up (dk_up (dk_up (dk_up σ 12 c) 13 f) 14 h) 14 (upd h 30 0)) 14 h' := hσ3
            rw [dk_up_up, dk_up_up] at hσ3
            subst hσ3
            have hls' : bf_ls (aC σ) (vC σ) (uC σ) (gC σ) (mC σ) (fun j => -toI (upd h 30 0) j) (fun j => -toI h' j) := hls'
            have hle : ∀ j, toI h' j ≤ toI (upd h 30 0) j := fun j => by have := hls'.2.1 j; dsimp only at this; omega
            have hgr : ∀ z, bf_sol (aC σ) (uC σ) (vC σ) (gC σ) (mC σ) z → (∀ j, z j ≤ toI (upd h 30 0) j) → ∀ j, z j ≤ toI h' j := by
              intro z hz1 hz2 j
              have := hls'.2.2 (fun j => -z j) (fun q hq ha => by have := hz1 q hq ha; dsimp only; omega) (fun j => by have := hz2 j; dsimp only; omega) j
              try dsimp only at this
              omega
            refine ⟨Or.inr rfl, c, f, h', rfl, hc1, hfb, ?_, Or.inl ⟨rfl, hES, hlen, ?_, ?_, ?_⟩⟩
            · intro j hj
              have q1 := hle j
              have q2 := hgr _ hzs hzl j
              have q3 := hb0 j hj
              try dsimp only at q2
              unfold toI at q1 q2
              split at q2
              · have q4 := hES.2.1 j hj
                unfold toI at q4
                omega
              · omega
            · intro q hq ha
              have := hls'.1 q hq ha
              try dsimp only at this
              omega
            · intro j hj
              rw [← hh0 j hj]
              exact hle j
            · intro z hz1 hz2 j hj
              have := hgr (fun j => if j < nC σ ∨ j = 30 then z j else toI (upd h 30 0) j) (fun q hq ha => by
                try dsimp only
                rw [if_pos (hN.u hq).2.1, if_pos (hN.v hq).2.1]
                exact hz1 q hq ha) (fun j => by
                try dsimp only
                split
                · next e => rw [hh0 j e]; exact hz2 j e
                · exact Int.le_refl _) j
              try dsimp only at this
              rw [if_pos (show j < nC σ ∨ j = 30 from hj)] at this
              exact this
          · exfalso
            apply hn
            show c 1 ≤ nI (nC σ)
            rw [hc1]
            show σ 1 0 ≤ nI (nC σ)
            rw [hN.n]
            exact Int32.le_refl _
        | succ d ih =>
          intro t h ht h1 h2
          have et : (nI t).toNatClampNeg = t := nI_clamp (by omega)
          have hdt := hd t (by omega)
          have hsub : (c 2 - σ 2 t).toInt = (c 2).toInt - dC σ t := dk_sub (by unfold dC at hdt; omega) (by unfold dC at hdt; omega)
          refine hC.go (fun q => if q = 19 then some 2 else none) 60 ?_
          refine ⟨fun hn => ?_, fun _ => ⟨30, rfl, vp_in_nI (by omega) (by omega), 31, rfl, vp_in_nI (by omega) (by omega), by decide, ?_⟩⟩
          · exfalso
            have hn : c 1 ≤ nI t := hn
            rw [hc1] at hn
            have hn : σ 1 0 ≤ nI t := hn
            rw [hN.n] at hn
            exact nI_ge (by omega) (by omega) hn
          · have key := ih (t + 1) (upd h t (c 2 - σ 2 t)) (by omega) (fun j hj => by
              unfold upd
              by_cases e : j = t
              · rw [if_pos e, e]; exact hsub
              · rw [if_neg e]; exact h1 j (by omega)) (fun j hj => by
              unfold upd
              rw [if_neg (by omega)]
              exact h2 j (by omega))
            rw [← nI_1, ← dk_up_up (f := h)] at key
            have e : upd (dk_up (dk_up (dk_up σ 12 c) 13 f) 14 h 14) (nI t).toNatClampNeg (c 2 - σ 2 (nI t).toNatClampNeg) = upd h t (c 2 - σ 2 t) := by
              rw [et, dk_up_self]
            rw [← e] at key
            exact key
      have key := loop (nC σ) 0 (σ 14) (by omega) (fun j hj => by omega) (fun j _ => rfl)
      have e : dk_up (dk_up (dk_up σ 12 c) 13 f) 14 (σ 14) = dk_up (dk_up σ 12 c) 13 f := dk_up_id (σ := dk_up (dk_up σ 12 c) 13 f) (k := 14)
      rw [e] at key
      exact key
    · exact absurd hr h
  · exact (dk_up_id (σ := dk_up (dk_up σ 12 c) 13 f) (k := 14)).symm
  · have h : ¬ ¬ r = 0 := h
    rcases hr with ⟨hr, -⟩ | ⟨-, hr⟩
    · exact absurd (fun q => by rw [hr] at q; exact absurd q (by decide)) h
    · exact no_FE hNN hx0 hr
theorem q_find : dk_pure (kX5_find, fX5, [(28, sp_ffe), (44, sp_lowerAll)], [(22, sp_fill)], [], 2, true) sp_find := by
  refine dk_sp_pure (fun x x' e => by cases e; rfl) (fun _ => rfl) ?_
  rintro OK T σ ⟨hT, hN, hB⟩ hC
  rcases hT with rfl | rfl
  · exact q_find_9 OK σ hN hB hC
  · exact q_find_12 OK σ hN hB hC
