/-! the cover; Match.find, holds, coverSize -/
def ruP (ru : Int32) (s : Nat) : Prop := bt ru s = true
def ruX (ru : Int32) (i s : Nat) : Prop := bt ru s = true ∧ ¬ s = i
def allP (_ : Nat) : Prop := True
theorem que_miss {ru W : Int32} {sk wt tw qu fi : Nat → Int32} {q p : Nat} {X : Nat → Prop} {fp qt : Nat → Nat} (hB : BI ru sk wt tw qu fi q W X fp qt p 16) (hM : MI wt tw) (hA : MA ru sk wt) : ∀ i, i < q → ∃ N, isM (adjS sk) (ruP ru) allP N ∧ szM N = szW wt ∧ N (qt i) = 16 ∧ ∀ s, s < 30 → (∀ j, j ≤ i → ¬ s = qt j) → N s = toM wt s := by
  intro i
  induction i using Nat.strongRecOn with
  | ind i ih =>
    intro hi
    obtain ⟨b1, b2, b3, b4, -⟩ := hB
    rcases b4 i hi with h | ⟨w, hw, h1, h2, h3⟩
    · exact ⟨toM wt, toM_isM hM hA, szM_toM hM, toM_none h, fun _ _ _ => rfl⟩
    · obtain ⟨N, n1, n2, n3, n4⟩ := ih (fp w) h3 (by omega)
      obtain ⟨c1, c2, c3, c4⟩ := b3 w hw h2
      obtain ⟨a, ha⟩ : ∃ a, a = qt (fp w) := ⟨_, rfl⟩
      obtain ⟨b, hb⟩ : ∃ b, b = qt i := ⟨_, rfl⟩
      have ha30 : a < 30 := by rw [ha]; exact (b1 _ c2).2.1
      have hb30 : b < 30 := by rw [hb]; exact (b1 _ hi).2.1
      have hra : bt ru a = true := by rw [ha]; exact (b1 _ c2).2.2
      have hab : ¬ a = b := fun e => by
        rw [ha, hb] at e
        have := b2 _ _ c2 hi e
        omega
      have hNb : N b = w := by
        rw [n4 b hb30 (fun j hj e => by
          rw [hb] at e
          have := b2 _ _ hi (by omega) e
          omega)]
        rw [← hb] at h1
        exact toM_some hw h1
      rw [← ha] at n3 c3
      rw [← hb]
      obtain ⟨K, hK⟩ : ∃ K : Nat → Nat, K = fun s => if s = a then w else if s = b then 16 else N s := ⟨_, rfl⟩
      have ka : K a = w := by rw [hK]; simp
      have kb : K b = 16 := by rw [hK]; simp [show ¬ b = a from fun e => hab e.symm]
      have ko : ∀ s, ¬ s = a → ¬ s = b → K s = N s := fun s h1 h2 => by rw [hK]; simp [h1, h2]
      refine ⟨K, ⟨fun s hs hm => ?_, fun s s' hs hs' hm e => ?_⟩, ?_, kb, fun s hs hj => ?_⟩
      · by_cases e1 : s = a
        · subst e1; rw [ka]; exact ⟨hra, trivial, c3⟩
        · by_cases e2 : s = b
          · subst e2; rw [kb] at hm; omega
          · rw [ko s e1 e2] at hm ⊢; exact n1.1 s hs hm
      · by_cases e1 : s = a
        · by_cases e1' : s' = a
          · rw [e1, e1']
          · by_cases e2' : s' = b
            · rw [e1, e2', ka, kb] at e; omega
            · rw [e1, ka, ko s' e1' e2', ← hNb] at e
              exact absurd (n1.2 b s' hb30 hs' (by omega) e).symm e2'
        · by_cases e2 : s = b
          · subst e2; rw [kb] at hm; omega
          · rw [ko s e1 e2] at hm e
            by_cases e1' : s' = a
            · rw [e1', ka, ← hNb] at e
              exact absurd (n1.2 s b hs hb30 hm e) e2
            · by_cases e2' : s' = b
              · rw [e2', kb] at e; omega
              · rw [ko s' e1' e2'] at e; exact n1.2 s s' hs hs' hm e
      · rw [← n2]
        unfold szM
        have r1 := cp_remove (Q := fun s => K s < 16) (m := 30) ha30 (by rw [ka]; exact hw)
        have r2 := cp_remove (Q := fun s => N s < 16) (m := 30) hb30 (by rw [hNb]; exact hw)
        have r3 : cp (fun s => K s < 16 ∧ ¬ s = a) 30 = cp (fun s => N s < 16 ∧ ¬ s = b) 30 := cp_congr (fun s hs => by
          constructor
          · rintro ⟨q1, q2⟩
            by_cases e2 : s = b
            · subst e2; rw [kb] at q1; omega
            · rw [ko s q2 e2] at q1; exact ⟨q1, e2⟩
          · rintro ⟨q1, q2⟩
            by_cases e1 : s = a
            · rw [e1, n3] at q1; omega
            · rw [ko s e1 q2]; exact ⟨q1, e1⟩)
        omega
      · have e1 : ¬ s = a := by rw [ha]; exact hj _ (by omega)
        have e2 : ¬ s = b := by rw [hb]; exact hj _ (Nat.le_refl _)
        rw [ko s e1 e2]
        exact n4 s hs (fun j hj' => hj j (by omega))
theorem BI.bf {ru W : Int32} {sk wt tw qu fi : Nat → Int32} {q : Nat} {X : Nat → Prop} {fp qt : Nat → Nat} (hB : BI ru sk wt tw qu fi q W X fp qt q 16) (hW : ∀ w, w < 16 → bt W w = true) (hM : MI wt tw) {U : Nat → Prop} (hU : ∀ s, U s → bt ru s = true) (hQ : ∀ i, i < q → U (qt i)) {N : Nat → Nat} (hN : isM (adjS sk) U allP N) : szM N ≤ cp (fun t => U t ∧ toM wt t < 16) 30 := by
  obtain ⟨b1, b2, b3, b4, b5, b6, b7⟩ := hB
  refine bfs_fail (Z := fun s => ∃ i, i < q ∧ qt i = s) (X := X) (fun a b ha hb hma e => toM_inj hM ha hb hma e) (fun s hs hu hZ => ?_) (fun s hs hu hZ v hv _ ha => ?_) (fun v hv hXv => ?_) hN
  · rw [toM_lt hM hs]
    intro c
    obtain ⟨i, hi, hi2⟩ := b7 s hs (hU s hu) c
    exact hZ ⟨i, hi, hi2⟩
  · obtain ⟨i, hi, rfl⟩ := hZ
    exact b6 i hi v hv ha (hW v hv)
  · obtain ⟨i, hi, c3⟩ := b5 v hv hXv (by omega)
    have c4 := b1 i hi
    exact ⟨qt i, c4.2.1, hQ i hi, ⟨i, hi, rfl⟩, toM_some hv (hM.wt c4.2.1 hv c3)⟩
/-- the cover by its tasks, by its workers -/
def CVt (ru : Int32) (sk : Nat → Int32) (all : Nat) (ct : Int32) : Prop := ∀ i, i < 32 → (bt ct i = true ↔ bt ru i = true ∧ ∀ N, isM (adjS sk) (ruX ru i) allP N → szM N < all)
def CVw (ru : Int32) (sk : Nat → Int32) (ct cw : Int32) : Prop := ∀ i, i < 32 → (bt cw i = true ↔ ∃ t, t < 30 ∧ bt ru t = true ∧ ¬ bt ct t = true ∧ bt (sk t) i = true)
def skb (sk : Nat → Int32) : Prop := ∀ t, t < 30 → ∀ i, i < 32 → bt (sk t) i = true → i < 16
/-- what a match is, by the tasks that run and the skills -/
def MT (ru : Int32) (sk : Nat → Int32) (all : Nat) (wt : Nat → Int32) (ct cw : Int32) : Prop := nu (adjS sk) (ruP ru) allP all ∧ (∀ t, t < 30 → GRat ru sk all wt t) ∧ CVt ru sk all ct ∧ CVw ru sk ct cw
abbrev sp_mfind : dk_M := dk_sp 3 true (fun x : Int32 × Int32 => [.inr 25, .inl x.1, .inl x.2]) (fun x σ => (∀ i, i < 32 → bt x.2 i = true → i < 30) ∧ skb (σ 8))
  (fun x σ r σ' => ∃ all c' wt' tw' qu fi, σ' = SM σ c' wt' tw' qu fi ∧ r = nI all ∧ (c' 0 = 1 ∧ c' 1 = 1 ∧ c' 2 = x.1 ∧ c' 3 = x.2) ∧ MA x.2 (σ 8) wt' ∧ MI wt' tw' ∧ all ≤ 16 ∧ MT x.2 (σ 8) all wt' (c' 4) (c' 5))
theorem szW_16 {wt tw : Nat → Int32} (h : MI wt tw) : szW wt ≤ 16 := by
  have h2 : ∀ n, cp (fun _ => True) n = n := by
    intro n
    induction n with
    | zero => rfl
    | succ n ih => rw [cp_succ_pos trivial, ih]
  have : cp (fun s => ¬ wt s = -1) 30 ≤ cp (fun _ => True) 16 := cp_inj (f := toM wt) (fun s hs q => ⟨(toM_lt h hs).mpr q, trivial⟩) (fun s s' hs hs' q _ e => toM_inj h hs hs' ((toM_lt h hs).mpr q) e)
  rw [h2] at this
  exact this
set_option maxRecDepth 100000 in
set_option maxHeartbeats 4000000 in
theorem q_mfind : dk_pure (kX3_find, fX3, [(48, sp_widen), (52, sp_keepCover), (59, sp_takeLeast)], [(41, sp_fill), (55, sp_holdsBit)], nX3, 6, false) sp_mfind := by
  refine dk_sp_pure (fun x x' e => by obtain ⟨a, b⟩ := x; obtain ⟨a', b'⟩ := x'; cases e; rfl) (fun _ => rfl) ?_
  rintro OK ⟨tm, ru⟩ σ ⟨hru, hskb⟩ hC
  have hru : ∀ i, i < 32 → bt ru i = true → i < 30 := hru
  obtain ⟨c0, hc0⟩ : ∃ c0, c0 = upd (upd (upd (upd (σ 25) 0 1) 1 1) 2 tm) 3 ru := ⟨_, rfl⟩
  have loop : ∀ (d : Nat) (c wt tw qu fi : Nat → Int32), szW wt + d = 17 → sc c0 c → MI wt tw → MA ru (σ 8) wt → OK 38 [(0, .inr 25), (1, .inl tm), (2, .inl ru), (3, .inl (nI (szW wt)))] [] (SM σ c wt tw qu fi) := by
    intro d
    induction d with
    | zero =>
      intro c wt tw qu fi hd _ hM
      have := szW_16 hM
      omega
    | succ d ih =>
      intro c wt tw qu fi hd hsc hM hA
      have c3 : c 3 = ru := by rw [hsc 3 (by omega) (by omega), hc0]; rfl
      obtain ⟨τ, hτ⟩ : ∃ τ, τ = SM σ c wt tw qu fi := ⟨_, rfl⟩
      have τ3 : τ 25 3 = ru := by rw [hτ]; exact c3
      have τc : τ 25 = c := by rw [hτ]; rfl
      have τ8 : τ 8 = σ 8 := by rw [hτ]; rfl
      have τ26 : τ 26 = wt := by rw [hτ]; rfl
      have τ27 : τ 27 = tw := by rw [hτ]; rfl
      have hrun : ∀ t, t < 30 → ¬ wt t = -1 → bt ru t = true := fun t ht q => by
        obtain ⟨v, hv, q1, -⟩ := hM.get ht q
        exact (hA t ht v hv q1).1
      refine hC.go (fun q => if q = 38 then some 4 else if q = 63 then some 4 else none) 60 ?_
      refine ⟨fun h => ?_, fun _ => ?_⟩
      · exfalso
        have h : nI 16 < nI (szW wt) := h
        rw [nI_ltI (by omega) (by omega)] at h
        have := szW_16 hM
        omega
      rw [← hτ]
      refine dk_cs 65535 rfl rfl rfl (by rw [τ3, τ26, τ27]; exact ⟨hM, hrun⟩) (fun r σ1 hq => ?_)
      rw [τ3, τ8, τ26, τ27, τc] at hq
      rcases hq with ⟨hr, wt', tw', qu', fi', se, q, hσ1, hM', ⟨t0, ht0, ht1, ht2, ht3⟩, hch⟩ | ⟨hr, qu', fi', se, q, X, fp, qt, hσ1, hB, hXs, hup⟩
      · subst hr
        rw [hσ1, hτ, SM_SM]
        refine ⟨fun q => absurd q i32_ne10, fun _ => ⟨by decide, ?_⟩⟩
        have hsz : szW wt' = szW wt + 1 := by
          unfold szW
          have r := cp_remove (Q := fun s => ¬ wt' s = -1) (m := 30) ht0 ((ht3 t0 ht0).mpr (Or.inr rfl))
          have r2 : cp (fun s => ¬ wt' s = -1 ∧ ¬ s = t0) 30 = cp (fun s => ¬ wt s = -1) 30 := cp_congr (fun s hs => by
            rw [ht3 s hs]
            constructor
            · rintro ⟨a, b⟩
              exact a.resolve_right b
            · intro a
              exact ⟨Or.inl a, fun e => a (by rw [e]; exact ht1)⟩)
          omega
        have key := ih (upd (upd c 10 se) 9 (nI q)) wt' tw' qu' fi' (by omega) (fun j h1 h2 => by
          unfold upd
          rw [if_neg h1, if_neg h2]
          exact hsc j h1 h2) hM' (fun s hs v hv e => by
          rcases hch s hs with c | ⟨x, hx, c3, c4, c5, c6, -⟩
          · rw [c] at e; exact hA s hs v hv e
          · rw [e, nI_eq (by omega) (by omega)] at c3
            subst c3
            exact ⟨c6, c4⟩)
        rw [hsz, ← nI_1] at key
        exact key
      · subst hr
        refine ⟨fun _ => ?_, fun q => absurd rfl q⟩
        have hq30 := hB.q30
        obtain ⟨ρ, hρ⟩ : ∃ ρ, ρ = SM σ (upd (upd c 10 se) 9 (nI q)) wt tw qu' fi' := ⟨_, rfl⟩
        have hσ1 : σ1 = ρ := by rw [hσ1, hτ, SM_SM, hρ]
        rw [hσ1]
        have ρc : ρ 25 = upd (upd c 10 se) 9 (nI q) := by rw [hρ]; rfl
        have ρ28 : ρ 28 = qu' := by rw [hρ]; rfl
        have ρ9 : ρ 25 9 = nI q := by rw [hρ]; rfl
        have ρ10 : ρ 25 10 = se := by rw [hρ]; rfl
        have ρ3 : ρ 25 3 = ru := by rw [hρ]; exact c3
        refine dk_cs () rfl rfl rfl ⟨q, hq30, ρ9, fun j hj => ⟨qt j, (hB.1 j hj).2.1, by rw [ρ28]; exact (hB.1 j hj).1⟩⟩ (fun _ σ2 hq2 => ?_)
        obtain ⟨ct, hσ2, hct⟩ := hq2
        have hct := hct q hq30 ρ9
        rw [ρ3, ρ28] at hct
        rw [ρ10, ρc] at hσ2
        obtain ⟨c2, hc2⟩ : ∃ c2, c2 = upd (upd (upd (upd c 10 se) 9 (nI q)) 4 ct) 5 se := ⟨_, rfl⟩
        have hσ2 : σ2 = SM σ c2 wt tw qu' fi' := by rw [hσ2, hρ, SM_25, ← hc2]
        have c23 : c2 3 = ru := by rw [hc2]; exact c3
        rw [hσ2]
        obtain ⟨ζ, hζ⟩ : ∃ ζ, ζ = SM σ c2 wt tw qu' fi' := ⟨_, rfl⟩
        have ζ3 : ζ 25 3 = ru := by rw [hζ]; exact c23
        have ζc : ζ 25 = c2 := by rw [hζ]; rfl
        have ζ8 : ζ 8 = σ 8 := by rw [hζ]; rfl
        have ζ26 : ζ 26 = wt := by rw [hζ]; rfl
        have ζ27 : ζ 27 = tw := by rw [hζ]; rfl
        have hmx : mxM ru (σ 8) (szW wt) := fun N hN => by
          have h1 := hB.bf b_65535 hM (U := fun s => bt ru s = true) (fun _ q => q) (fun i hi => (hB.1 i hi).2.2) hN
          have h2 : cp (fun t => bt ru t = true ∧ toM wt t < 16) 30 ≤ szW wt := cp_mono (fun s hs q => (toM_lt hM hs).mp q.2)
          omega
        rw [← hζ]
        refine l_tLW OK ζ tm ru (nI (szW wt)) (by rw [ζ3, ζ8, ζ26]; exact hmx) (by rw [ζ26, ζ27]; exact hM) (by rw [ζ3, ζ8, ζ26]; exact hA) hC (fun c' wt' tw' qu2 fi2 hsc3 hM3 hA3 hGR => ?_)
        rw [ζc] at hsc3
        rw [ζ3, ζ8] at hA3
        rw [ζ3, ζ8, ζ26] at hGR
        have g : ∀ j, ¬ j = 9 → ¬ j = 10 → ¬ j = 4 → ¬ j = 5 → c' j = c0 j := fun j h1 h2 h3 h4 => by
          rw [hsc3 j h1 h2, hc2]
          unfold upd
          rw [if_neg h4, if_neg h3, if_neg h1, if_neg h2]
          exact hsc j h1 h2
        have g4 : c' 4 = ct := by rw [hsc3 4 (by omega) (by omega), hc2]; rfl
        have g5 : c' 5 = se := by rw [hsc3 5 (by omega) (by omega), hc2]; rfl
        have hqd : ∀ i, i < 30 → ((∀ j, j < q → ¬ qu' j = nI i) ↔ ∀ j, j < q → ¬ qt j = i) := fun i hi =>
          ⟨fun h j hj e => h j hj (by rw [(hB.1 j hj).1, e]), fun h j hj e => h j hj (by
            have := (hB.1 j hj).2.1
            rw [(hB.1 j hj).1, nI_eq (by omega) (by omega)] at e
            exact e)⟩
        have miss : ∀ j, j < q → ¬ ∀ N, isM (adjS (σ 8)) (ruX ru (qt j)) allP N → szM N < szW wt := fun j hj h => by
          obtain ⟨N, n1, n2, n3, -⟩ := que_miss hB hM hA j hj
          have := h N ⟨fun s hs hm => ⟨⟨(n1.1 s hs hm).1, fun e => by rw [e, n3] at hm; omega⟩, (n1.1 s hs hm).2⟩, n1.2⟩
          omega
        refine ⟨szW wt, c', wt', tw', qu2, fi2, by rw [hζ, SM_SM], rfl, ⟨?_, ?_, ?_, ?_⟩, hA3, hM3, szW_16 hM, ⟨⟨toM wt, toM_isM hM hA, szM_toM hM⟩, hmx⟩, hGR, ?_, ?_⟩
        · rw [g 0 (by omega) (by omega) (by omega) (by omega), hc0]; rfl
        · rw [g 1 (by omega) (by omega) (by omega) (by omega), hc0]; rfl
        · rw [g 2 (by omega) (by omega) (by omega) (by omega), hc0]; rfl
        · rw [g 3 (by omega) (by omega) (by omega) (by omega), hc0]; rfl
        · rw [g4]
          intro i hi
          rw [hct i hi]
          constructor
          · rintro ⟨h1, h2⟩
            have h30 := hru i hi h1
            rw [hqd i h30] at h2
            refine ⟨h1, fun N hN => ?_⟩
            have hu := hB.bf b_65535 hM (U := ruX ru i) (fun _ q => q.1) (fun j hj => ⟨(hB.1 j hj).2.2, h2 j hj⟩) hN
            have hwi : ¬ wt i = -1 := fun e => by
              obtain ⟨j, hj, e2⟩ := hB.2.2.2.2.2.2 i h30 h1 e
              exact h2 j hj e2
            have r1 := cp_remove (Q := fun s => ¬ wt s = -1) (m := 30) h30 hwi
            have r2 : cp (fun t => ruX ru i t ∧ toM wt t < 16) 30 ≤ cp (fun s => ¬ wt s = -1 ∧ ¬ s = i) 30 := cp_mono (fun s hs q => ⟨(toM_lt hM hs).mp q.2, q.1.2⟩)
            unfold szW
            omega
          · rintro ⟨h1, h2⟩
            have h30 := hru i hi h1
            refine ⟨h1, (hqd i h30).mpr (fun j hj e => ?_)⟩
            rw [← e] at h2
            exact miss j hj h2
        · rw [g4, g5]
          intro i hi
          constructor
          · intro h1
            have hi16 := b_65535' i hi (hup i hi h1)
            obtain ⟨d1, d2, d3, d4⟩ := hB.2.2.1 i hi16 ((hXs i hi16).mpr h1)
            have e1 := hB.1 _ d2
            refine ⟨qt (fp i), e1.2.1, e1.2.2, fun h => ?_, d3⟩
            have := (hct _ (by omega)).mp h
            exact this.2 _ d2 e1.1
          · rintro ⟨t, ht, h1, h2, h3⟩
            have hi16 := hskb t ht i hi h3
            have : ∃ j, j < q ∧ qt j = t := by
              apply Classical.byContradiction
              intro h
              exact h2 ((hct t (by omega)).mpr ⟨h1, (hqd t ht).mpr (fun j hj e => h ⟨j, hj, e⟩)⟩)
            obtain ⟨j, hj, rfl⟩ := this
            exact (hXs i hi16).mp (hB.2.2.2.2.2.1 j hj i hi16 h3 (b_65535 i hi16))
  refine hC.go (fun q => if q = 38 then some 4 else none) 60 ?_
  refine ⟨Or.inr rfl, Or.inr rfl, dk_cs (26, -1) rfl rfl rfl ⟨30, rfl⟩ (fun _ σ1 hq1 => ?_)⟩
  have hq1 := hq1 30 rfl
  rw [hq1]
  refine dk_cs (27, -1) rfl rfl rfl ⟨16, rfl⟩ (fun _ σ2 hq2 => ?_)
  have hq2 := hq2 16 rfl
  rw [hq2]
  refine ⟨by decide, ?_⟩
  obtain ⟨wt, hwt⟩ : ∃ wt : Nat → Int32, wt = fun j => if j < 30 then -1 else σ 26 j := ⟨_, rfl⟩
  obtain ⟨tw, htw⟩ : ∃ tw : Nat → Int32, tw = fun j => if j < 16 then -1 else σ 27 j := ⟨_, rfl⟩
  have w1 : ∀ s, s < 30 → wt s = -1 := fun s hs => by rw [hwt]; simp [hs]
  have w2 : ∀ s, s < 16 → tw s = -1 := fun s hs => by rw [htw]; simp [hs]
  have hM : MI wt tw := ⟨fun s hs => Or.inl (w1 s hs), fun s hs => Or.inl (w2 s hs)⟩
  have hz : szW wt = 0 := cp_none (fun s hs q => q (w1 s hs))
  have key := loop 17 c0 wt tw (σ 28) (σ 29) (by omega) (fun _ _ _ => rfl) hM (fun s hs v hv e => by
    rw [w1 s hs] at e
    exact absurd e.symm (nI_m1 (by omega)))
  rw [hz] at key
  have e : SM σ c0 wt tw (σ 28) (σ 29) = dk_up (dk_up (dk_up (dk_up (dk_up (dk_up σ 25 (upd (σ 25) 0 1)) 25 (upd (upd (σ 25) 0 1) 1 1)) 25 (upd (upd (upd (σ 25) 0 1) 1 1) 2 tm)) 25 c0) 26 wt) 27 tw := by
    rw [dk_up_up, dk_up_up, dk_up_up]
    conv => rhs; rw [← SM_id (σ := σ)]
    rw [SM_25, SM_26, SM_27]
  rw [e, hc0, hwt, htw] at key
  exact key
