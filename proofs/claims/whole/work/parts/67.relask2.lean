/-! the questions' answers are the same -/
theorem two_ask {n n' : Nat} {b b' : Bool} {X : Type} {A A' : X → List dk_V} {P P' : X → dk_S → Prop} {Z Z' : X → dk_S → Int32 → Prop} (x : X) (h : ∀ σ, Rel σ → P x σ ∧ P' x σ ∧ ∀ r r', Z x σ r → Z' x σ r' → r' = r) : two (dk_sp n b A P (fun x σ r σ' => σ' = σ ∧ Z x σ r)) (dk_sp n' b' A' P' (fun x σ r σ' => σ' = σ ∧ Z' x σ r)) (A x) (A' x) :=
  two_sp x (fun σ hR => ⟨(h σ hR).1, fun r σ' hq => by
    obtain ⟨rfl, hz⟩ := hq
    refine ⟨(h _ hR).2.1, fun r' σ'' hq' => ?_⟩
    obtain ⟨rfl, hz'⟩ := hq'
    exact ⟨(h _ hR).2.2 r r' hz hz', hR⟩⟩)
theorem Rel.fre {σ : dk_S} (h : Rel σ) (hf : tf (σ 0 8) (σ 0 7)) {k : Nat} (hk : k < nC σ) : FRM σ k = FRC σ k := by
  unfold FRM FRC
  obtain ⟨-, -, h3, -⟩ := h.frs hf
  rw [h.exv hf (Or.inl hk), h3, fr_congr (a' := aC σ) (u' := uC σ) (v' := vC σ) (g' := gC σ) (x' := toI (σ 10)) (fun c hc => ⟨rfl, rfl, rfl, rfl, h.exv hf (h.1.1.1.v hc).2.1⟩) (h.exv hf (Or.inl hk))]
theorem t_start (t w : Int32) : two sp_xstart sp_mstart [.inr 0, .inl t, .inl w] [.inr 30, .inl t, .inl w] := by
  refine two_ask (A := fun x : Int32 × Int32 => [.inr 0, .inl x.1, .inl x.2]) (A' := fun x : Int32 × Int32 => [.inr 30, .inl x.1, .inl x.2]) (t, w) (fun σ h => ⟨h.hPI, ⟨h.1.1, h.hKB⟩, fun r r' h1 h2 => ?_⟩)
  rw [h1, h2]
  show startM (σ 30 0) (σ 30 20) (σ 30 19) (σ 43) (σ 44) (FRM σ) t w = startF (σ 1 0) (σ 0 8) (σ 0 7) (σ 10) (σ 11) (FRC σ) t w
  have hn30 := h.1.1.1.n30
  unfold startM startF
  by_cases c : (0 ≤ t ∧ t < σ 1 0) ∧ 0 ≤ w ∧ w ≤ 3
  · rw [if_pos c, if_pos ⟨(h.itask t).mpr c.1, c.2⟩]
    by_cases f : tf (σ 0 8) (σ 0 7)
    · rw [if_pos f, if_pos (h.etf.mp f)]
      obtain ⟨k, hk, rfl⟩ := (ht_iff h.1.1.1 t).mp c.1
      obtain ⟨-, -, -, h4⟩ := h.frs f
      rw [nI_clamp (by omega), h.fre f hk, (h4 k hk).1, (h4 k hk).2]
    · rw [if_neg f, if_neg (fun q => f (h.etf.mpr q))]
  · rw [if_neg c, if_neg (fun q => c ⟨(h.itask t).mp q.1, q.2⟩)]
theorem t_length : two sp_xlength sp_mlength [.inr 0] [.inr 30] := by
  refine two_ask (A := fun _ : Unit => [.inr 0]) (A' := fun _ : Unit => [.inr 30]) () (fun σ h => ⟨trivial, trivial, fun r r' h1 h2 => ?_⟩)
  rw [h1, h2]
  by_cases f : tf (σ 0 8) (σ 0 7)
  · rw [if_pos f, if_pos (h.etf.mp f)]
    exact (h.frs f).2.2.1
  · rw [if_neg f, if_neg (fun q => f (h.etf.mpr q))]
theorem atv_eq {σ : dk_S} {o s a o' s' a' k : Nat} (hk : k ≤ 31) (h1 : σ o s = nI k) (h2 : σ o' s' = nI k) (h3 : ∀ i, i < k → σ a' i = σ a i) (i : Int32) : atv σ o' s' a' i = atv σ o s a i := by
  unfold atv
  rw [h1, h2]
  by_cases c : 0 ≤ i ∧ i < nI k
  · rw [if_pos c, if_pos c]
    obtain ⟨j, hj, rfl⟩ := nI_of (i32_nlt.mpr c.1)
    have c2 := c.2
    rw [nI_ltI hj (by omega)] at c2
    rw [nI_clamp hj]
    exact h3 j c2
  · rw [if_neg c, if_neg c]
theorem t_row (w i : Int32) : two sp_xrow sp_mrow [.inr 0, .inl w, .inl i] [.inr 30, .inl w, .inl i] := by
  refine two_ask (A := fun x : Int32 × Int32 => [.inr 0, .inl x.1, .inl x.2]) (A' := fun x : Int32 × Int32 => [.inr 30, .inl x.1, .inl x.2]) (w, i) (fun σ h => ?_)
  obtain ⟨-, -, ⟨-, hfr, -, -, ⟨k, k1, k2, k3, k4⟩, j, j1, j2, j3, j4⟩, -⟩ := h
  refine ⟨⟨⟨k, k1, k2⟩, j, j1, j2⟩, ⟨⟨k, k1, k3⟩, j, j1, j3⟩, fun r r' h1 h2 => ?_⟩
  rw [h1, h2]
  show (if ¬ σ 30 20 = 0 then (-1 : Int32) else if w = 0 then atv σ 30 17 41 i else if w = 1 then atv σ 30 15 40 i else -1) = rowF (σ 0 8) (atv σ 15 4 16 i) (atv σ 18 2 19 i) w
  unfold rowF
  rw [atv_eq (by omega) k2 k3 k4, atv_eq j1 j2 j3 (fun i hi => (j4 i hi).1)]
  rcases hfr with ⟨q1, q2⟩ | ⟨q1, q2⟩
  · rw [q1, q2, if_pos i32_ne10, if_pos rfl]
  · rw [q1, q2, if_neg (fun q => q rfl), if_neg i32_ne10]
theorem t_busy (s : Int32) : two sp_xbusy sp_mbusy [.inr 0, .inl s] [.inr 30, .inl s] := by
  refine two_ask (A := fun x : Int32 => [.inr 0, .inl x]) (A' := fun x : Int32 => [.inr 30, .inl x]) s (fun σ h => ⟨h.hPI, ⟨h.1.1, h.hKB⟩, fun r r' h1 h2 => ?_⟩)
  rw [h1, h2]
  by_cases f : tf (σ 0 8) (σ 0 7)
  · rw [if_pos f, if_pos (h.etf.mp f), h.erc f]
  · rw [if_neg f, if_neg (fun q => f (h.etf.mpr q))]
theorem PK.same {σ : dk_S} (h : Rel σ) (f : tf (σ 0 8) (σ 0 7)) {P : Int} (hp : PK (xv (nC σ) (σ 43)) (dC σ) (nC σ) P) : PK (toI (σ 10)) (dC σ) (nC σ) P := by
  have e : ∀ s, cn (rn (toI (σ 10)) (dC σ) s) (nC σ) = cn (rn (xv (nC σ) (σ 43)) (dC σ) s) (nC σ) := fun s => (h.erc f s).symm
  unfold PK
  simp only [e]
  exact hp
theorem t_peak (x : Int32) : two sp_xpeak sp_mpeak [.inr 0, .inl x] [.inr 30, .inl x] := by
  refine two_ask (A := fun x : Int32 => [.inr 0, .inl x]) (A' := fun x : Int32 => [.inr 30, .inl x]) x (fun σ h => ⟨h.hPI, ⟨h.1.1, h.hKB⟩, fun r r' h1 h2 => ?_⟩)
  have n01 : ¬ (1 : Int32) = 0 := i32_ne10
  rcases h1 with ⟨a1, a2⟩ | ⟨a1, a2, a3⟩ | ⟨a1, P, a2, a3⟩
  · rcases h2 with ⟨b1, b2⟩ | ⟨b1, b2, b3⟩ | ⟨b1, Q, b2, b3⟩
    · rw [a2, b2]
    · exact absurd b1 (fun q => q.elim a1.1 a1.2)
    · exact absurd (b3.imp And.left And.left) (fun q => q.elim a1.1 a1.2)
  · rcases h2 with ⟨b1, b2⟩ | ⟨b1, b2, b3⟩ | ⟨b1, Q, b2, b3⟩
    · exact absurd a1 (fun q => q.elim b1.1 b1.2)
    · rw [a3, b3]
    · exact absurd (h.etf.mpr b1) a2
  · rcases h2 with ⟨b1, b2⟩ | ⟨b1, b2, b3⟩ | ⟨b1, Q, b2, b3⟩
    · exact absurd (a3.imp And.left And.left) (fun q => q.elim b1.1 b1.2)
    · exact absurd (h.etf.mp a1) b2
    · have e : Q = P := dk_eq.mpr ((PK.same h a1 b2).unique a2)
      rw [e, h.erc a1] at b3
      rcases a3 with ⟨c1, c2⟩ | ⟨c1, c2⟩
      · rcases b3 with ⟨d1, d2⟩ | ⟨d1, d2⟩
        · rw [c2, d2]
        · exact absurd (d1.symm.trans c1) n01
      · rcases b3 with ⟨d1, d2⟩ | ⟨d1, d2⟩
        · exact absurd (c1.symm.trans d1) n01
        · rw [c2, d2]
theorem Rel.mf {σ : dk_S} (h : Rel σ) : (¬ σ 30 25 = 0 ∧ σ 30 26 = 0) ↔ ¬ σ 25 1 = 0 := by
  obtain ⟨-, -, -, -, h25, hf, -⟩ := h
  rw [h25]
  rcases hf with ⟨q1, q2⟩ | ⟨q1, q2, q3, -⟩
  · rw [q1, q2]
    exact ⟨fun q => absurd q.2 i32_ne10, fun q => absurd rfl q⟩
  · rw [q1, q3]
    exact ⟨fun _ => i32_ne10, fun _ => ⟨q2, rfl⟩⟩
theorem Rel.keep {σ : dk_S} (h : Rel σ) (hf : ¬ σ 25 1 = 0) : ¬ σ 25 0 = 0 ∧ ∀ t, t < nC σ → σ 45 t = σ 26 t := by
  obtain ⟨-, -, -, -, h25, hf', -⟩ := h
  rcases hf' with ⟨q1, q2⟩ | ⟨q1, q2, q3, q4⟩
  · exact absurd q1 hf
  · exact ⟨q2, q4⟩
theorem t_workerOf (t : Int32) : two sp_xworkerOf sp_mworkerOf [.inr 0, .inl t] [.inr 30, .inl t] := by
  refine two_ask (A := fun x : Int32 => [.inr 0, .inl x]) (A' := fun x : Int32 => [.inr 30, .inl x]) t (fun σ h => ⟨h.1.1.1, h.1.1, fun r r' h1 h2 => ?_⟩)
  rw [h1, h2]
  unfold wofM wofF
  have hn30 := h.1.1.1.n30
  by_cases f : σ 25 1 = 0
  · rw [if_pos f, if_neg (fun q => h.mf.mp q f)]
  · rw [if_neg f, if_pos (h.mf.mpr f)]
    by_cases c : 0 ≤ t ∧ t < σ 1 0
    · rw [if_pos c, if_pos ((h.itask t).mpr c)]
      obtain ⟨k, hk, rfl⟩ := (ht_iff h.1.1.1 t).mp c
      rw [nI_clamp (by omega)]
      exact (h.keep f).2 k hk
    · rw [if_neg c, if_neg (fun q => c ((h.itask t).mp q))]
theorem t_cover (s id : Int32) : two sp_xcover sp_mcover [.inr 0, .inl s, .inl id] [.inr 30, .inl s, .inl id] := by
  refine two_ask (A := fun x : Int32 × Int32 => [.inr 0, .inl x.1, .inl x.2]) (A' := fun x : Int32 × Int32 => [.inr 30, .inl x.1, .inl x.2]) (s, id) (fun σ h => ⟨trivial, trivial, fun r r' h1 h2 => ?_⟩)
  rw [h1, h2]
  show covM (σ 30 25) (σ 30 26) (σ 30 0) (σ 30 2) (σ 30 29) (σ 30 30) s id = covF (σ 25 1) (σ 1 0) (σ 7 0) (σ 25 4) (σ 25 5) s id
  unfold covM covF
  by_cases f : σ 25 1 = 0
  · rw [if_pos f, if_neg (fun q => h.mf.mp q f)]
  · rw [if_neg f, if_pos (h.mf.mpr f)]
    obtain ⟨⟨-, -, k3, k4⟩, -⟩ := h.2.2.2.2.2.2 (h.keep f).1
    rw [k3, k4]
    by_cases c : s = 0 ∧ 0 ≤ id ∧ id < σ 1 0
    · rw [if_pos c, if_pos ⟨c.1, (h.itask id).mpr c.2⟩]
    · rw [if_neg c, if_neg (fun q => c ⟨q.1, (h.itask id).mp q.2⟩)]
      by_cases c2 : s = 1 ∧ 0 ≤ id ∧ id < σ 7 0
      · rw [if_pos c2, if_pos ⟨c2.1, (h.iworker id).mpr c2.2⟩]
      · rw [if_neg c2, if_neg (fun q => c2 ⟨q.1, (h.iworker id).mp q.2⟩)]
theorem pop_30 {x : Int32} (h : ∀ i, i < 32 → bt x i = true → i < 30) : cn (bt x) 30 = pop x := (cn_more (n := 30) (k := 2) (fun i h1 h2 q => by have := h i (by omega) q; omega)).symm
theorem t_count (w : Int32) : two sp_xcount sp_mcount [.inr 0, .inl w] [.inr 30, .inl w] := by
  refine two_ask (A := fun x : Int32 => [.inr 0, .inl x]) (A' := fun x : Int32 => [.inr 30, .inl x]) w (fun σ h => ⟨trivial, trivial, fun r r' h1 h2 => ?_⟩)
  rw [h1, h2]
  have ecv : cvM σ = if σ 25 1 = 0 then 0 else nI (pop (σ 25 4)) + nI (pop (σ 25 5)) := by
    unfold cvM
    by_cases f : σ 25 1 = 0
    · rw [if_pos f, if_neg (fun q => h.mf.mp q f)]
    · rw [if_neg f, if_pos (h.mf.mpr f)]
      obtain ⟨⟨-, -, k3, k4⟩, -, -, k5, k6⟩ := h.2.2.2.2.2.2 (h.keep f).1
      rw [k3, k4, pop_30 k5, pop_30 k6]
  rw [ecv, h.1.1.2.1, ← h.1.1.1.n, h.1.1.2.2.1, ← h.1.1.1.m, h.1.2.1, h.2.1.2.2.1, h.2.1.2.2.2.1, h.2.2.1.1]
  obtain ⟨-, -, ⟨-, hfr, -, -, ⟨k, k1, k2, k3, k4⟩, j, j1, j2, j3, j4⟩, -⟩ := h
  rw [k2, k3, j2, j3]
  unfold countM countF
  rcases hfr with ⟨q1, q2⟩ | ⟨q1, q2⟩
  · rw [q1, q2, if_neg i32_ne10, if_pos (rfl : (0 : Int32) = 0), if_neg i32_ne10, if_pos (rfl : (0 : Int32) = 0), if_neg i32_ne10, if_pos (rfl : (0 : Int32) = 0)]
  · rw [q1, q2, if_neg i32_ne10, if_pos (rfl : (0 : Int32) = 0), if_neg i32_ne10, if_pos (rfl : (0 : Int32) = 0), if_neg i32_ne10, if_pos (rfl : (0 : Int32) = 0)]
theorem t_delay (t w : Int32) : two sp_xdelay sp_mdelay [.inr 0, .inl t, .inl w] [.inr 30, .inl t, .inl w] := by
  refine two_sp (A := fun x : Int32 × Int32 => [.inr 0, .inl x.1, .inl x.2]) (A' := fun x : Int32 × Int32 => [.inr 30, .inl x.1, .inl x.2]) (t, w) (fun σ h => ⟨h.hPI, fun r σ' hq => ?_⟩)
  obtain ⟨⟨c, f, hσ'⟩, h1⟩ := hq
  have h1 : DLY σ t w r := h1
  subst hσ'
  refine ⟨⟨h.1.1, h.hKB⟩, fun r' σ'' hq' => ?_⟩
  obtain ⟨⟨g, hσ''⟩, h2⟩ := hq'
  have h2 : DLM σ t w r' := h2
  refine ⟨?_, by rw [hσ'']; exact h⟩
  have hn30 := h.1.1.1.n30
  have iff : okdlM σ t w ↔ okdl σ t w := ⟨fun q => ⟨(h.itask t).mp q.1, q.2⟩, fun q => ⟨(h.itask t).mpr q.1, q.2⟩⟩
  rcases h1 with ⟨a1, a2⟩ | ⟨a1, a2, a3⟩ | ⟨a1, a2, a3⟩
  · rcases h2 with ⟨b1, b2⟩ | ⟨b1, b2, b3⟩ | ⟨b1, b2, b3⟩
    · rw [a2, b2]
    · exact absurd (iff.mp b1) a1
    · exact absurd (iff.mp b1) a1
  · rcases h2 with ⟨b1, b2⟩ | ⟨b1, b2, b3⟩ | ⟨b1, b2, b3⟩
    · exact absurd (iff.mpr a1) b1
    · rw [a3, b3]
    · exact absurd (h.etf.mpr b2) a2
  · rcases h2 with ⟨b1, b2⟩ | ⟨b1, b2, b3⟩ | ⟨b1, b2, b3⟩
    · exact absurd (iff.mpr a1) b1
    · exact absurd (h.etf.mp a2) b2
    · have ed : db (xv (nC σ) (σ 43)) t.toNatClampNeg w.toInt = db (toI (σ 10)) t.toNatClampNeg w.toInt := by
        obtain ⟨k, hk, e⟩ := (ht_iff h.1.1.1 t).mp a1.1
        unfold db
        rw [e, nI_clamp (by omega), h.exv a2 (Or.inl hk)]
      rw [ed] at b3
      rcases a3 with ⟨x, x1, x2⟩ | ⟨x1, x2⟩
      · rcases b3 with ⟨y, y1, y2⟩ | ⟨y1, y2⟩
        · have e := x1.unique y1
          rw [dk_eq, y2, x2]
          exact pl_len_congr (fun t ht => ⟨rfl, (e t (by omega)).symm⟩)
        · exact absurd ⟨x, x1.1, x1.2.1, x1.2.2.1⟩ y1
      · rcases b3 with ⟨y, y1, y2⟩ | ⟨y1, y2⟩
        · exact absurd ⟨y, y1.1, y1.2.1, y1.2.2.1⟩ x1
        · rw [x2, y2]
theorem Rel.same {σ : dk_S} (h : Rel σ) (h0 : σ 0 7 = 0) : MSAME σ ↔ SAME σ := by
  have hn30 := h.1.1.1.n30
  have hn := h.1.1.1.n
  have hnm := h.1.1.2.1
  obtain ⟨k, k1, k2, k3, k4, k5⟩ := h.2.2.1.2.2.2.1 h0
  unfold MSAME SAME
  rw [k2, k3, k4, hn, hnm, nI_eq (by omega) (by omega)]
  constructor
  · rintro ⟨x, y, q1, q2, q3, q4, q5⟩
    refine ⟨x, y, q1, q2, q3, q4, fun t ht => ?_⟩
    have := k5 t (by omega)
    have q6 := q5 t ht
    unfold toI at q6 ⊢
    rw [this.1, this.2] at q6
    exact q6
  · rintro ⟨x, y, q1, q2, q3, q4, q5⟩
    refine ⟨x, y, q1, q2, q3, q4, fun t ht => ?_⟩
    have := k5 t (by omega)
    have q6 := q5 t ht
    unfold toI at q6 ⊢
    rw [this.1, this.2]
    exact q6
theorem Rel.std {σ : dk_S} (h : Rel σ) : MSTD σ ↔ STD σ := by
  have hm120 := h.1.1.1.m120
  have hcon := h.1.1.2.2.2.2.1
  obtain ⟨k, k1, k2, k3, k4⟩ := h.2.2.1.2.2.2.2.2
  unfold MSTD STD
  rw [k2, k3, nI_clamp (by omega)]
  constructor
  · intro q i hi h120
    obtain ⟨e, c, c1, c2⟩ := k4 i hi
    have q := q i hi
    rw [e, c1] at q
    rw [c1, nI_clamp (by omega)] at h120 ⊢
    have hc : c < mC σ := by omega
    rcases q with q | q
    · have q : nI 200 ≤ nI c := q
      rw [nI_leI (by omega) (by omega)] at q
      omega
    · rw [nI_clamp (by omega), (hcon c hc).2.2.2] at q
      exact q
  · intro q i hi
    obtain ⟨e, c, c1, c2⟩ := k4 i hi
    have q := q i hi
    rw [e, c1]
    rw [c1, nI_clamp (by omega)] at q
    rcases c2 with c2 | c2
    · right
      rw [nI_clamp (by omega), (hcon c c2).2.2.2]
      exact q (by omega)
    · left
      show nI 200 ≤ nI c
      rw [nI_leI (by omega) (by omega)]
      omega
theorem Rel.hold {σ : dk_S} (h : Rel σ) (h0 : ¬ σ 25 0 = 0) : MHOLD σ ↔ HOLD σ := by
  have hn30 := h.1.1.1.n30
  obtain ⟨⟨k1, k2, k3, k4⟩, k5, -⟩ := h.2.2.2.2.2.2 h0
  have h36 := h.2.1.2.2.2.2.1
  unfold MHOLD HOLD
  rw [k1, k2, k3, k4]
  constructor
  · rintro ⟨x, q1, q2, q3⟩
    refine ⟨x, q1, q2, fun t ht => ?_⟩
    by_cases c : t < nC σ
    · have := q3 t c
      unfold Cov at this ⊢
      rw [h36 t c] at this
      exact this
    · exact Or.inl (fun q => c (k5 t (by omega) q))
  · rintro ⟨x, q1, q2, q3⟩
    refine ⟨x, q1, q2, fun t ht => ?_⟩
    have := q3 t (by omega)
    unfold Cov at this ⊢
    rw [h36 t ht]
    exact this
set_option maxRecDepth 10000 in
theorem t_check (w : Int32) : two sp_xcheck sp_mcheck [.inr 0, .inl w] [.inr 30, .inl w] := by
  refine two_sp (A := fun x : Int32 => [.inr 0, .inl x]) (A' := fun x : Int32 => [.inr 30, .inl x]) w (fun σ h => ?_)
  have hm120 := h.1.1.1.m120
  have hci := h.2.2.1.2.2.2.2.2
  refine ⟨⟨h.1.1.1, h.2.2.2.1.2.2.1, ?_, fun q => (h.2.2.2.2.2.2 q).2.2.1⟩, fun r σ' hq => ?_⟩
  · obtain ⟨k, k1, k2, k3, k4⟩ := hci
    refine ⟨k, k1, k2, fun i hi => ?_⟩
    obtain ⟨-, c, c1, c2⟩ := k4 i hi
    exact ⟨c, c1, by omega⟩
  obtain ⟨⟨c, f, g, hσ', hg⟩, h1⟩ := hq
  have h1 : CHK σ w r := h1
  subst hσ'
  refine ⟨⟨h.1.1, ?_⟩, fun r' σ'' hq' => ?_⟩
  · obtain ⟨k, k1, k2, k3, k4⟩ := hci
    refine ⟨k, k1, k3, fun i hi => ?_⟩
    obtain ⟨e, c, c1, c2⟩ := k4 i hi
    refine ⟨c, ?_, by omega⟩
    show σ 40 i = nI c
    rw [e]
    exact c1
  obtain ⟨⟨f', g', hσ''⟩, h2⟩ := hq'
  have h2 : MCHK σ w r' := h2
  refine ⟨?_, ?_⟩
  · have e19 := h.2.2.1.1
    have e25 := h.2.2.2.2.1
    unfold MCHK at h2
    rw [e19, e25, h.std] at h2
    rcases h1 with ⟨a1, a2, a3⟩ | ⟨a1, a2, a3⟩ | ⟨a1, a2, a3⟩ | ⟨a1, a2⟩
    · rcases h2 with ⟨b1, b2, b3⟩ | ⟨b1, b2, b3⟩ | ⟨b1, b2, b3⟩ | ⟨b1, b2⟩
      · exact (b3.iff (h.same a2)).unique a3
      · exact absurd (b1.symm.trans a1) i32_ne10
      · exact absurd (b1.symm.trans a1) (by decide)
      · exact absurd ⟨a1, a2⟩ b1.1
    · rcases h2 with ⟨b1, b2, b3⟩ | ⟨b1, b2, b3⟩ | ⟨b1, b2, b3⟩ | ⟨b1, b2⟩
      · exact absurd (a1.symm.trans b1) i32_ne10
      · exact b3.unique a3
      · exact absurd (b1.symm.trans a1) (by decide)
      · exact absurd ⟨a1, a2⟩ b1.2.1
    · rcases h2 with ⟨b1, b2, b3⟩ | ⟨b1, b2, b3⟩ | ⟨b1, b2, b3⟩ | ⟨b1, b2⟩
      · exact absurd (a1.symm.trans b1) (by decide)
      · exact absurd (a1.symm.trans b1) (by decide)
      · exact (b3.iff (h.hold a2)).unique a3
      · exact absurd ⟨a1, a2⟩ b1.2.2
    · rcases h2 with ⟨b1, b2, b3⟩ | ⟨b1, b2, b3⟩ | ⟨b1, b2, b3⟩ | ⟨b1, b2⟩
      · exact absurd ⟨b1, b2⟩ a1.1
      · exact absurd ⟨b1, b2⟩ a1.2.1
      · exact absurd ⟨b1, b2⟩ a1.2.2
      · rw [a2, b2]
  · rw [hσ'']
    obtain ⟨g1, g2, g3, ⟨b1, b2, b3, b4⟩, g5⟩ := h
    exact ⟨g1, g2, g3, ⟨b1, b2, hg, b4⟩, g5⟩
