/-! walks of so many edges, and what they add up to -/
def ws (ne : Nat) (A : Nat → Bool) (F T : Nat → Nat) (G : Nat → Int) : Nat → Nat → Nat → Int → Prop
  | 0, p, q, s => p = q ∧ s = 0
  | j + 1, p, q, s => ∃ e, e < ne ∧ A e = true ∧ F e = p ∧ ∃ s', ws ne A F T G j (T e) q s' ∧ s = G e + s'
/-- v is what walks of j edges from p to q add up to at most; far below 0 if there is none -/
def Mx (ne : Nat) (A : Nat → Bool) (F T : Nat → Nat) (G : Nat → Int) (j p q : Nat) (v : Int) : Prop :=
  (ws ne A F T G j p q v ∧ ∀ s, ws ne A F T G j p q s → s ≤ v) ∨ ((∀ s, ¬ ws ne A F T G j p q s) ∧ v ≤ -1000000 + 1000 * j)
/-- there is a closed walk of j edges at p above 0 -/
def PC (ne : Nat) (A : Nat → Bool) (F T : Nat → Nat) (G : Nat → Int) (j p : Nat) : Prop := ∃ s, 0 < s ∧ ws ne A F T G j p p s
section WS
variable {ne : Nat} {A : Nat → Bool} {F T : Nat → Nat} {G : Nat → Int}
theorem ws_bd (hG : ∀ e, e < ne → A e = true → -1000 ≤ G e ∧ G e ≤ 1000) : ∀ {j p q : Nat} {s : Int}, ws ne A F T G j p q s → -(1000 * (j : Int)) ≤ s ∧ s ≤ 1000 * j := by
  intro j
  induction j with
  | zero => rintro p q s ⟨-, h⟩; omega
  | succ j ih =>
    rintro p q s ⟨e, h1, h2, -, s', h3, h4⟩
    have := ih h3
    have := hG e h1 h2
    omega
theorem Mx.pos (hG : ∀ e, e < ne → A e = true → -1000 ≤ G e ∧ G e ≤ 1000) {j p q : Nat} {v a : Int} (h : Mx ne A F T G j p q v) (hj : j ≤ 31) (ha : a ≤ 100000) : 0 < a + v ↔ ∃ s, ws ne A F T G j p q s ∧ 0 < a + s := by
  rcases h with ⟨h1, h2⟩ | ⟨h1, h2⟩
  · constructor
    · intro q; exact ⟨v, h1, q⟩
    · rintro ⟨s, hs, q⟩
      have := h2 s hs
      omega
  · constructor
    · intro q; omega
    · rintro ⟨s, hs, -⟩; exact absurd hs (h1 s)
theorem Mx.lo (hG : ∀ e, e < ne → A e = true → -1000 ≤ G e ∧ G e ≤ 1000) {j p q : Nat} {v : Int} (h : Mx ne A F T G j p q v) (hj : j ≤ 31) : v ≤ 1000 * j := by
  rcases h with ⟨h1, h2⟩ | ⟨h1, h2⟩
  · exact (ws_bd hG h1).2
  · omega
theorem Mx.zero (p q : Nat) : Mx ne A F T G 0 p q (if p = q then 0 else -1000000) := by
  by_cases h : p = q
  · rw [if_pos h]
    exact Or.inl ⟨⟨h, rfl⟩, fun s hs => by have := hs.2; omega⟩
  · rw [if_neg h]
    exact Or.inr ⟨fun s hs => h hs.1, by omega⟩
/-- one edge more -/
theorem Mx.step (hG : ∀ e, e < ne → A e = true → -1000 ≤ G e ∧ G e ≤ 1000) {j p q : Nat} {b : Nat → Int} {v : Int} (hj : j ≤ 31) (hb : ∀ e, e < ne → A e = true → F e = p → Mx ne A F T G j (T e) q (b (T e)))
    (h1 : ∀ e, e < ne → A e = true → F e = p → b (T e) + G e ≤ v) (h2 : v = -1000000 ∨ ∃ e, e < ne ∧ A e = true ∧ F e = p ∧ v = b (T e) + G e) : Mx ne A F T G (j + 1) p q v := by
  by_cases hr : ∃ s, ws ne A F T G (j + 1) p q s
  · left
    obtain ⟨s, e, he1, he2, he3, s', he4, he5⟩ := hr
    have hlow : ∀ e s', e < ne → A e = true → F e = p → ws ne A F T G j (T e) q s' → s' ≤ b (T e) := by
      intro e s' a1 a2 a3 a4
      rcases hb e a1 a2 a3 with ⟨-, q2⟩ | ⟨q1, -⟩
      · exact q2 s' a4
      · exact absurd a4 (q1 s')
    have hv : -(1000 * ((j : Int) + 1)) ≤ v := by
      have a1 := h1 e he1 he2 he3
      have a2 := hlow e s' he1 he2 he3 he4
      have a3 := ws_bd hG he4
      have a4 := hG e he1 he2
      omega
    refine ⟨?_, ?_⟩
    · rcases h2 with h2 | ⟨e2, a1, a2, a3, a4⟩
      · omega
      · rcases hb e2 a1 a2 a3 with ⟨q1, -⟩ | ⟨-, q2⟩
        · exact ⟨e2, a1, a2, a3, b (T e2), q1, by omega⟩
        · have := hG e2 a1 a2
          omega
    · rintro s2 ⟨e2, a1, a2, a3, s3, a4, a5⟩
      have := hlow e2 s3 a1 a2 a3 a4
      have := h1 e2 a1 a2 a3
      omega
  · right
    refine ⟨fun s hs => hr ⟨s, hs⟩, ?_⟩
    rcases h2 with h2 | ⟨e2, a1, a2, a3, a4⟩
    · omega
    · rcases hb e2 a1 a2 a3 with ⟨q1, -⟩ | ⟨-, q2⟩
      · exact absurd ⟨_, e2, a1, a2, a3, _, q1, rfl⟩ hr
      · have := hG e2 a1 a2
        omega
end WS
abbrev wsC (σ : dk_S) := ws (nE σ) (eA σ) (eF σ) (eT σ) (eG σ)
abbrev MxC (σ : dk_S) := Mx (nE σ) (eA σ) (eF σ) (eT σ) (eG σ)
abbrev PCC (σ : dk_S) := PC (nE σ) (eA σ) (eF σ) (eT σ) (eG σ)
theorem eG_bd {σ : dk_S} (hN : NW σ) : ∀ e, e < nE σ → eA σ e = true → -1000 ≤ eG σ e ∧ eG σ e ≤ 1000 := by
  intro e he _
  unfold eG
  split
  · next h => exact hN.g h
  · omega
theorem eF_lt {σ : dk_S} (hN : NW σ) {e : Nat} (he : e < nE σ) : eF σ e < 31 ∧ (eF σ e < nC σ ∨ eF σ e = 30) := by
  unfold eF
  split
  · next h => exact ⟨(hN.u h).2.2, (hN.u h).2.1⟩
  · omega
theorem eT_lt {σ : dk_S} (hN : NW σ) {e : Nat} (he : e < nE σ) : eT σ e < 31 ∧ (eT σ e < nC σ ∨ eT σ e = 30) := by
  have := hN.n30
  unfold eT nE at *
  split
  · next h => exact ⟨(hN.v h).2.2, (hN.v h).2.1⟩
  · omega
theorem eN_lt {σ : dk_S} (hN : NW σ) {e : Nat} (he : e < nE σ) : eN σ e < 230 ∧ (eN σ e < mC σ ∨ 200 ≤ eN σ e) := by
  have := hN.n30
  have := hN.m120
  unfold eN nE at *
  split <;> omega
/-- the rows of edges stand -/
def EV (σ : dk_S) : Prop := ∃ k φ, σ 18 3 = nI k ∧ EVe σ (nE σ) k φ (σ 20) (σ 21) (σ 22) (σ 23)
/-- the rows of the two-dimensional array -/
def dk_rows (σ : dk_S) (R : Nat → Nat → Int32) : dk_S := fun q => if 49 ≤ q ∧ q < 81 then R (q - 49) else σ q
theorem rows_up {σ : dk_S} {R : Nat → Nat → Int32} {j : Nat} (hj : j < 32) {f : Nat → Int32} : dk_up (dk_rows σ R) (49 + j) f = dk_rows σ (fun i => if i = j then f else R i) := by
  funext q
  unfold dk_up dk_rows
  by_cases h : q = 49 + j
  · subst h
    rw [if_pos rfl, if_pos (by omega)]
    show f = if 49 + j - 49 = j then f else R (49 + j - 49)
    rw [if_pos (by omega)]
  · rw [if_neg h]
    by_cases h2 : 49 ≤ q ∧ q < 81
    · rw [if_pos h2, if_pos h2]
      show R (q - 49) = if q - 49 = j then f else R (q - 49)
      rw [if_neg (by omega)]
    · rw [if_neg h2, if_neg h2]
theorem rows_at {σ : dk_S} {R : Nat → Nat → Int32} {j : Nat} (hj : j < 32) : dk_rows σ R (49 + j) = R j := by
  unfold dk_rows
  rw [if_pos (by omega), show 49 + j - 49 = j by omega]
theorem rows_id {σ : dk_S} : dk_rows σ (fun j => σ (49 + j)) = σ := by
  funext q
  unfold dk_rows
  split
  · next h =>
    show σ (49 + (q - 49)) = σ q
    rw [show 49 + (q - 49) = q by omega]
  · rfl
theorem row_arr : ∀ k, 49 ≤ k → k < 81 → dk_arr k = some (false, 31) := by
  intro k h1 h2
  have : ∀ j, j < 32 → dk_arr (49 + j) = some (false, 31) := by decide +kernel
  have := this (k - 49) (by omega)
  rwa [show 49 + (k - 49) = k by omega] at this
abbrev sp_addStep : dk_M := dk_sp 3 false (fun x : Nat × Nat => [.inr 18, .inr x.1, .inr x.2]) (fun x σ => (49 ≤ x.1 ∧ x.1 < 81 ∧ 49 ≤ x.2 ∧ x.2 < 81 ∧ ¬ x.1 = x.2) ∧ NW σ ∧ EV σ ∧ ∀ p, p < 31 → -1000000 ≤ (σ x.1 p).toInt ∧ (σ x.1 p).toInt ≤ 100000)
  (fun x σ _ σ' => ∃ f, σ' = dk_up σ x.2 f ∧ ∀ p, p < 31 → -1000000 ≤ (f p).toInt ∧ (∀ e, e < nE σ → eA σ e = true → eF σ e = p → (σ x.1 (eT σ e)).toInt + eG σ e ≤ (f p).toInt) ∧ ((f p).toInt = -1000000 ∨ ∃ e, e < nE σ ∧ eA σ e = true ∧ eF σ e = p ∧ (f p).toInt = (σ x.1 (eT σ e)).toInt + eG σ e))
set_option maxRecDepth 100000 in
set_option maxHeartbeats 2000000 in
theorem q_addStep : dk_pure (kX1_addStep, fX1, [], [(92, sp_fill), (102, sp_max)], nX1, 4, false) sp_addStep := by
  refine dk_sp_pure (fun x x' e => by obtain ⟨a, b⟩ := x; obtain ⟨c, d⟩ := x'; cases e; rfl) (fun _ => rfl) ?_
  rintro OK ⟨b, a⟩ σ ⟨⟨hb1, hb2, ha1, ha2, hab⟩, hN, ⟨k, φ, hk, hE⟩, hB⟩ hC
  have hb1 : 49 ≤ b := hb1
  have hb2 : b < 81 := hb2
  have ha1 : 49 ≤ a := ha1
  have ha2 : a < 81 := ha2
  have hab : ¬ b = a := hab
  have hB : ∀ p, p < 31 → -1000000 ≤ (σ b p).toInt ∧ (σ b p).toInt ≤ 100000 := hB
  have hn := hN.n30
  have hm := hN.m120
  obtain ⟨hE1, hE2, hE3, hE4, -⟩ := hE
  have hk150 : k ≤ 150 := by unfold nE at hE4; omega
  have haa := row_arr a ha1 ha2
  have hbb := row_arr b hb1 hb2
  have up : ∀ (f : Nat → Int32) (q : Nat), q < 49 → dk_up σ a f q = σ q := fun f q h => dk_up_ne (by omega)
  have upb : ∀ (f : Nat → Int32), dk_up σ a f b = σ b := fun f => dk_up_ne hab
  refine hC.go (fun q => if q = 8 then some 4 else none) 60 ?_
  refine dk_cs (a, -1000000) rfl rfl rfl ⟨31, haa⟩ (fun _ σ1 hq => ?_)
  have hq := hq 31 haa
  rw [hq]
  have loop : ∀ (d i : Nat) (f : Nat → Int32), i + d = k → (∀ p, p < 31 → -1000000 ≤ (f p).toInt ∧ (f p).toInt ≤ 101000 ∧ (∀ q, q < i → eF σ (φ q) = p → (σ b (eT σ (φ q))).toInt + eG σ (φ q) ≤ (f p).toInt) ∧ ((f p).toInt = -1000000 ∨ ∃ q, q < i ∧ eF σ (φ q) = p ∧ (f p).toInt = (σ b (eT σ (φ q))).toInt + eG σ (φ q))) → OK 8 [(0, .inr 18), (1, .inr b), (2, .inr a), (3, .inl (nI i))] [] (dk_up σ a f) := by
    intro d
    induction d with
    | zero =>
      intro i f hi hf
      refine hC.go (fun q => if q = 8 then some 4 else none) 60 ?_
      refine ⟨fun _ => ⟨f, rfl, fun p hp => ?_⟩, fun h => ?_⟩
      · obtain ⟨h1, -, h3, h4⟩ := hf p hp
        refine ⟨h1, fun e he hea hef => ?_, ?_⟩
        · obtain ⟨q, hq1, hq2⟩ := hE3 e he hea
          have := h3 q (by omega) (by rw [hq2]; exact hef)
          rw [hq2] at this
          exact this
        · rcases h4 with h4 | ⟨q, q1, q2, q3⟩
          · exact Or.inl h4
          · exact Or.inr ⟨φ q, (hE1 q (by omega)).1, (hE1 q (by omega)).2.1, q2, q3⟩
      · exfalso
        apply h
        show dk_up σ a f 18 3 ≤ nI i
        rw [up f 18 (by omega), hk, show k = i by omega]
        exact Int32.le_refl _
    | succ d ih =>
      intro i f hi hf
      have ei : (nI i).toNatClampNeg = i := nI_clamp (by omega)
      have hii : vp_in (nI i) 150 := vp_in_nI (by omega) (by omega)
      obtain ⟨p1, p2, p3, p4, p5, p6⟩ := hE1 i (by omega)
      have hF := (eF_lt hN p1).1
      have hT := (eT_lt hN p1).1
      have hG := eG_bd hN _ p1 p2
      have eF' : (nI (eF σ (φ i))).toNatClampNeg = eF σ (φ i) := nI_clamp (by omega)
      have eT' : (nI (eT σ (φ i))).toNatClampNeg = eT σ (φ i) := nI_clamp (by omega)
      have hbT := hB _ hT
      have hadd : (σ b (eT σ (φ i)) + σ 23 i).toInt = (σ b (eT σ (φ i))).toInt + eG σ (φ i) := by
        rw [← p6]
        exact dk_add (by rw [p6]; omega) (by rw [p6]; omega)
      have hi1 : vp_in (dk_up σ a f 21 (nI i).toNatClampNeg) 31 := by rw [up f 21 (by omega), ei, p4]; exact vp_in_nI hF (by omega)
      have hi2 : vp_in (dk_up σ a f 22 (nI i).toNatClampNeg) 31 := by rw [up f 22 (by omega), ei, p5]; exact vp_in_nI hT (by omega)
      refine hC.go (fun q => if q = 8 then some 4 else none) 60 ?_
      refine ⟨fun h => ?_, fun _ => ⟨150, rfl, hii, 150, rfl, hii, 31, haa, hi1, 150, rfl, hii, 31, hbb, hi2, 150, rfl, hii, ?_⟩⟩
      · exfalso
        have h : dk_up σ a f 18 3 ≤ nI i := h
        rw [up f 18 (by omega), hk] at h
        exact nI_ge (by omega) (by omega) h
      refine dk_cs (dk_up σ a f a (dk_up σ a f 21 (nI i).toNatClampNeg).toNatClampNeg, dk_up σ a f b (dk_up σ a f 22 (nI i).toNatClampNeg).toNatClampNeg + dk_up σ a f 23 (nI i).toNatClampNeg) rfl rfl rfl trivial (fun r2 σ2 hq => ?_)
      obtain ⟨hσ2, hr2⟩ := hq
      rw [hσ2]
      have hr2 : r2 = if dk_up σ a f a (dk_up σ a f 21 (nI i).toNatClampNeg).toNatClampNeg < dk_up σ a f b (dk_up σ a f 22 (nI i).toNatClampNeg).toNatClampNeg + dk_up σ a f 23 (nI i).toNatClampNeg then dk_up σ a f b (dk_up σ a f 22 (nI i).toNatClampNeg).toNatClampNeg + dk_up σ a f 23 (nI i).toNatClampNeg else dk_up σ a f a (dk_up σ a f 21 (nI i).toNatClampNeg).toNatClampNeg := hr2
      rw [up f 21 (by omega), up f 22 (by omega), up f 23 (by omega), upb f, dk_up_self, ei, p4, p5, eF', eT'] at hr2
      have hr3 : r2.toInt = if (f (eF σ (φ i))).toInt < (σ b (eT σ (φ i))).toInt + eG σ (φ i) then (σ b (eT σ (φ i))).toInt + eG σ (φ i) else (f (eF σ (φ i))).toInt := by
        rw [hr2]
        by_cases e : f (eF σ (φ i)) < σ b (eT σ (φ i)) + σ 23 i
        · rw [if_pos e, hadd, if_pos (by rw [dk_lt, hadd] at e; exact e)]
        · rw [if_neg e, if_neg (by rw [dk_lt, hadd] at e; exact e)]
      refine ⟨31, haa, hi1, by decide, ?_⟩
      have key := ih (i + 1) (upd f (eF σ (φ i)) r2) (by omega) (fun p hp => ?_)
      · rw [← nI_1 i] at key
        have e : dk_up (dk_up σ a f) a (upd (dk_up σ a f a) (dk_up σ a f 21 (nI i).toNatClampNeg).toNatClampNeg r2) = dk_up σ a (upd f (eF σ (φ i)) r2) := by
          rw [dk_up_up, dk_up_self, up f 21 (by omega), ei, p4, eF']
        rw [← e] at key
        exact key
      · obtain ⟨h1, h2, h3, h4⟩ := hf p hp
        by_cases e : p = eF σ (φ i)
        · have eu : upd f (eF σ (φ i)) r2 p = r2 := by unfold upd; rw [if_pos e]
          rw [eu, hr3, ← e]
          refine ⟨by split <;> omega, by split <;> omega, fun q hq hqp => ?_, ?_⟩
          · by_cases eq : q = i
            · subst eq; split <;> omega
            · have := h3 q (by omega) hqp
              split <;> omega
          · by_cases ec : (f p).toInt < (σ b (eT σ (φ i))).toInt + eG σ (φ i)
            · rw [if_pos ec]
              exact Or.inr ⟨i, by omega, e.symm, rfl⟩
            · rw [if_neg ec]
              rcases h4 with h4 | ⟨q, q1, q2, q3⟩
              · exact Or.inl h4
              · exact Or.inr ⟨q, by omega, q2, q3⟩
        · have eu : upd f (eF σ (φ i)) r2 p = f p := by unfold upd; rw [if_neg e]
          rw [eu]
          refine ⟨h1, h2, fun q hq hqp => ?_, ?_⟩
          · by_cases eq : q = i
            · subst eq; exact absurd hqp.symm e
            · exact h3 q (by omega) hqp
          · rcases h4 with h4 | ⟨q, q1, q2, q3⟩
            · exact Or.inl h4
            · exact Or.inr ⟨q, by omega, q2, q3⟩
  refine ⟨by decide, ?_⟩
  refine loop k 0 (fun j => if j < 31 then -1000000 else σ a j) (by omega) (fun p hp => ?_)
  try dsimp only
  rw [if_pos hp]
  have e6 : (-1000000 : Int32).toInt = -1000000 := rfl
  rw [e6]
  exact ⟨by omega, by omega, fun q hq => by omega, Or.inl rfl⟩
