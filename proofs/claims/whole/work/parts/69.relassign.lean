/-! assign of both -/
theorem isM.adj {sk sk' : Nat → Int32} {S W : Nat → Prop} {M : Nat → Nat} (h : ∀ t, t < 30 → S t → sk t = sk' t) (hm : isM (adjS sk) S W M) : isM (adjS sk') S W M :=
  ⟨fun t ht q => by
    obtain ⟨q1, q2, q3⟩ := hm.1 t ht q
    refine ⟨q1, q2, ?_⟩
    unfold adjS at q3 ⊢
    rw [← h t ht q1]
    exact q3, hm.2⟩
theorem nu.adj {sk sk' : Nat → Int32} {S W : Nat → Prop} {k : Nat} (h : ∀ t, t < 30 → S t → sk t = sk' t) (hn : nu (adjS sk) S W k) : nu (adjS sk') S W k := by
  obtain ⟨⟨M, h1, h2⟩, h3⟩ := hn
  exact ⟨⟨M, h1.adj h, h2⟩, fun N hN => h3 N (hN.adj (fun t ht q => (h t ht q).symm))⟩
theorem OKc.adj {ru : Int32} {sk sk' : Nat → Int32} {all : Nat} {wt : Nat → Int32} {t w : Nat} (ht : t < 30) (h : ∀ t, t < 30 → bt ru t = true → sk t = sk' t) (hc : OKc ru sk all wt t w) : OKc ru sk' all wt t w := by
  obtain ⟨c1, c2, c3, N, c4, c5⟩ := hc
  exact ⟨c1, by rw [← h t ht c1]; exact c2, c3, N, c4.adj (fun t ht q => h t ht q.2), c5⟩
theorem GRat.adj {ru : Int32} {sk sk' : Nat → Int32} {all : Nat} {wt : Nat → Int32} {t : Nat} (ht : t < 30) (h : ∀ t, t < 30 → bt ru t = true → sk t = sk' t) (hc : GRat ru sk all wt t) : GRat ru sk' all wt t := by
  have h' : ∀ t, t < 30 → bt ru t = true → sk' t = sk t := fun t ht q => (h t ht q).symm
  rcases hc with ⟨a, b⟩ | ⟨w, a, b, c, d⟩
  · exact Or.inl ⟨a, fun w hw q => b w hw (q.adj ht h')⟩
  · exact Or.inr ⟨w, a, b, c.adj ht h, fun v hv q => d v hv (q.adj ht h')⟩
theorem b_iff {x y : Int32} (h : ∀ i, i < 32 → (bt x i = true ↔ bt y i = true)) : x = y := b_ext (fun i hi => by
  have := h i hi
  cases hx : bt x i with
  | true => rw [this.mp hx]
  | false =>
    cases hy : bt y i with
    | true => rw [this.mpr hy] at hx; cases hx
    | false => rfl)
theorem CVt.unique {ru : Int32} {sk sk' : Nat → Int32} {all : Nat} {x y : Int32} (h : ∀ t, t < 30 → bt ru t = true → sk t = sk' t) (hx : CVt ru sk all x) (hy : CVt ru sk' all y) : x = y := b_iff (fun i hi => by
  rw [hx i hi, hy i hi]
  constructor
  · rintro ⟨q1, q2⟩
    exact ⟨q1, fun N hN => q2 N (hN.adj (fun t ht q => (h t ht q.1).symm))⟩
  · rintro ⟨q1, q2⟩
    exact ⟨q1, fun N hN => q2 N (hN.adj (fun t ht q => h t ht q.1))⟩)
theorem CVw.unique {ru ct : Int32} {sk sk' : Nat → Int32} {x y : Int32} (h : ∀ t, t < 30 → bt ru t = true → sk t = sk' t) (hx : CVw ru sk ct x) (hy : CVw ru sk' ct y) : x = y := b_iff (fun i hi => by
  rw [hx i hi, hy i hi]
  constructor
  · rintro ⟨t, q1, q2, q3, q4⟩
    exact ⟨t, q1, q2, q3, by rw [← h t q1 q2]; exact q4⟩
  · rintro ⟨t, q1, q2, q3, q4⟩
    exact ⟨t, q1, q2, q3, by rw [h t q1 q2]; exact q4⟩)
set_option maxRecDepth 10000 in
set_option maxHeartbeats 2000000 in
theorem t_assign (s : Int32) : two sp_xassign sp_massign [.inr 0, .inl s] [.inr 30, .inl s] := by
  refine two_sp (A := fun x : Int32 => [.inr 0, .inl x]) (A' := fun x : Int32 => [.inr 30, .inl x]) s (fun σ h => ⟨⟨h.hPI, h.2.1.2.1⟩, fun r σ' hq => ?_⟩)
  have hn30 := h.1.1.1.n30
  rcases hq with ⟨a1, a2, a3⟩ | ⟨a1, ru, a2, all, c', wt, tw, qu, fi, hσ', hr, ⟨c0, c1, c2, c3⟩, hMA, hMI, hall, hnu, hGR, hct, hcw⟩
  · subst a3
    refine ⟨⟨h.1.1, h.hKB⟩, fun r' σ'' hq' => ?_⟩
    rcases hq' with ⟨b1, b2, b3⟩ | ⟨b1, -⟩
    · rw [b3, a2, b2]; exact ⟨rfl, h⟩
    · exact absurd (h.etf.mpr b1) a1
  · subst hσ'
    refine ⟨⟨h.1.1, h.hKB⟩, fun r' σ'' hq' => ?_⟩
    rcases hq' with ⟨b1, -⟩ | ⟨b1, ru', all', c, g, a, b, e, hσ'', hRU, hr', hc, ⟨d0, d1, d2, d3⟩, hnu', hGR', hct', hcw'⟩
    · exact absurd (h.etf.mp a1) b1
    have hRU : RUm σ s.toInt ru' := hRU
    have hc : ∀ j, j < 25 → c j = σ 30 j := hc
    have hnu' : nu (adjS (σ 36)) (ruP ru') allP all' := hnu'
    have hGR' : ∀ t, t < nC σ → GRat ru' (σ 36) all' g t := hGR'
    have hct' : CVt ru' (σ 36) all' (c 29) := hct'
    have hcw' : CVw ru' (σ 36) (c 29) (c 30) := hcw'
    have eru : ru' = ru := b_ext (fun i hi => by
      rw [hRU i hi, a2 i hi]
      by_cases q : i < nC σ
      · rw [h.ern a1 _ q]
      · simp [q])
    subst eru
    have hru : ∀ i, i < 32 → bt ru' i = true → i < nC σ := fun i hi hb => by
      rw [hRU i hi] at hb
      simp only [Bool.and_eq_true, decide_eq_true_eq] at hb
      exact hb.1
    have h36 := h.2.1.2.2.2.2.1
    have hsk : ∀ t, t < 30 → bt ru' t = true → σ 36 t = σ 8 t := fun t ht q => h36 t (hru t (by omega) q)
    have eall : all' = all := (hnu'.adj hsk).unique hnu
    subst eall
    have eg : ∀ t, t < nC σ → g t = wt t := GR.unique (fun t ht => (hGR' t ht).adj (by omega) hsk) (fun t ht => hGR t (by omega))
    have e4 : c 29 = c' 4 := CVt.unique hsk hct' hct
    rw [e4] at hcw'
    have e5 : c 30 = c' 5 := CVw.unique hsk hcw' hcw
    refine ⟨by rw [hr, hr'], ?_⟩
    obtain ⟨⟨⟨hN, hn, hm, hdur, hcon, hoo⟩, h3, h6⟩, ⟨hCW, hsb, hw, hs, -, h8⟩, ⟨h19, hfr, hFRS, hK, hch, hci⟩, hRB, h25, hfm, hKM⟩ := h
    rw [hσ'']
    refine ⟨⟨⟨hN, (hc 0 (by omega)).trans hn, (hc 1 (by omega)).trans hm, hdur, hcon, hoo⟩, (hc 3 (by omega)).trans h3, h6⟩, ⟨hCW, hsb, (hc 2 (by omega)).trans hw, (hc 10 (by omega)).trans hs, h36, h8⟩, ⟨(hc 19 (by omega)).trans h19, ?_, hFRS, ?_, ?_, ?_⟩, hRB, ?_, ?_, ?_⟩
    · have : c 20 = σ 30 20 := hc 20 (by omega)
      show (σ 0 8 = 0 ∧ c 20 = 1) ∨ (σ 0 8 = 1 ∧ c 20 = 0)
      rw [this]
      exact hfr
    · intro q
      obtain ⟨k, k1, k2, k3, k4, k5⟩ := hK q
      exact ⟨k, k1, k2, (hc 24 (by omega)).trans k3, (hc 23 (by omega)).trans k4, k5⟩
    · obtain ⟨k, k1, k2, k3, k4⟩ := hch
      exact ⟨k, k1, k2, (hc 17 (by omega)).trans k3, k4⟩
    · obtain ⟨k, k1, k2, k3, k4⟩ := hci
      exact ⟨k, k1, k2, (hc 15 (by omega)).trans k3, k4⟩
    · show c 25 = c' 0
      rw [d0, c0]
    · right
      refine ⟨c1, ?_, d1, eg⟩
      show ¬ c' 0 = 0
      rw [c0]
      exact i32_ne10
    · intro _
      refine ⟨⟨?_, ?_, e4, e5⟩, ?_, fun t ht => ?_, fun i hi q => ?_, fun i hi q => ?_⟩
      · show c 27 = c' 2
        rw [d2, c2]
      · show c 28 = c' 3
        rw [d3, c3]
      · intro i hi q
        have q : bt (c' 3) i = true := q
        rw [c3] at q
        exact hru i hi q
      · show wt t = -1 ∨ ∃ w, w < 16 ∧ wt t = nI w ∧ bt (σ 8 t) w = true
        rcases hMI.1 t ht with q | ⟨w, q1, q2, q3⟩
        · exact Or.inl q
        · exact Or.inr ⟨w, q1, q2, (hMA t ht w q1 q2).2⟩
      · have q : bt (c' 4) i = true := q
        have := hru i hi ((hct i hi).mp q).1
        omega
      · have q : bt (c' 5) i = true := q
        obtain ⟨t, q1, q2, q3, q4⟩ := (hcw i hi).mp q
        have := hsb t q1 i hi q4
        omega
