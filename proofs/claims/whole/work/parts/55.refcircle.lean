/-! the reference's goes, findCircle -/
def gs (σ : dk_S) (i k b q : Nat) (a : Int) (e : Nat) : Prop := e < nE σ ∧ eA σ e = true ∧ (¬ i = 0 → eF σ e = q) ∧ ∃ s, wsC σ (k - 1 - i) (eT σ e) (if i = 0 then eF σ e else b) s ∧ 0 < a + eG σ e + s
abbrev X6 : Type := Int32 × Int32 × Int32 × Int32 × Int32 × Int32
def gop (σ : dk_S) (e i k b q : Nat) (x : X6) : Prop := x = (nI e, nI i, nI k, x.2.2.2.1, x.2.2.2.2.1, x.2.2.2.2.2) ∧ e < nE σ ∧ i < k ∧ k ≤ 31 ∧ (¬ i = 0 → x.2.2.2.1 = nI b ∧ b < 31 ∧ x.2.2.2.2.1 = nI q ∧ q < 31) ∧ -100000 ≤ x.2.2.2.2.2.toInt ∧ x.2.2.2.2.2.toInt ≤ 100000 ∧ ∀ j, j < k → ∀ p q, p < 31 → q < 31 → MN σ j p q (σ 39 (ix j p q)).toInt
abbrev sp_goes : dk_M := dk_sp 7 true (fun x : X6 => [.inr 30, .inl x.1, .inl x.2.1, .inl x.2.2.1, .inl x.2.2.2.1, .inl x.2.2.2.2.1, .inl x.2.2.2.2.2]) (fun x σ => RN σ ∧ ∃ e i k b q, gop σ e i k b q x) (fun x σ r σ' => σ' = σ ∧ ∀ e i k b q, gop σ e i k b q x → yn r (gs σ i k b q x.2.2.2.2.2.toInt e))
theorem gs.congr {σ : dk_S} {i k b q b' q' : Nat} {a : Int} {e : Nat} (h : ¬ i = 0 → b = b' ∧ q = q') : gs σ i k b q a e ↔ gs σ i k b' q' a e := by
  by_cases c : i = 0
  · subst c
    unfold gs
    simp
  · obtain ⟨rfl, rfl⟩ := h c
    exact Iff.rfl
set_option maxRecDepth 100000 in
set_option maxHeartbeats 4000000 in
theorem q_goes : dk_pure (kX7_goes, fX7, [(103, sp_isEdge), (107, sp_edgeFrom), (111, sp_edgeTo), (114, sp_edgeGap)], [], nX7, 9, true) sp_goes := by
  refine dk_sp_pure (fun x x' e => by obtain ⟨a, b, c, d, f, g⟩ := x; obtain ⟨a', b', c', d', f', g'⟩ := x'; cases e; rfl) (fun _ => rfl) ?_
  rintro OK ⟨xe, xi, xk, xb, xq, xa⟩ σ ⟨hR, e, i, k, b, q, hg⟩ hC
  have hg0 := hg
  obtain ⟨hx, he, hik, hk, hbq, ha1, ha2, hMN⟩ := hg
  have e1 : xe = nI e := congrArg Prod.fst hx
  have e2 : xi = nI i := congrArg (fun x : X6 => x.2.1) hx
  have e3 : xk = nI k := congrArg (fun x : X6 => x.2.2.1) hx
  subst e1
  subst e2
  subst e3
  have hbq : ¬ i = 0 → xb = nI b ∧ b < 31 ∧ xq = nI q ∧ q < 31 := hbq
  have ha1 : -100000 ≤ xa.toInt := ha1
  have ha2 : xa.toInt ≤ 100000 := ha2
  have hR0 := hR
  obtain ⟨hN, hn, hm, hdur, hcon, hoo⟩ := hR
  have h150 := nE150 hN
  have ee : (nI e).toNatClampNeg = e := nI_clamp (by omega)
  have hF := (eF_lt hN he).1
  have hT := (eT_lt hN he).1
  have hpe : edgeP (nI e) σ := ⟨hR0, e, he, rfl⟩
  have post : ∀ r, yn r (gs σ i k b q xa.toInt e) → σ = σ ∧ ∀ e' i' k' b' q', gop σ e' i' k' b' q' (nI e, nI i, nI k, xb, xq, xa) → yn r (gs σ i' k' b' q' xa.toInt e') := by
    intro r hr
    refine ⟨rfl, fun e' i' k' b' q' hg' => ?_⟩
    obtain ⟨hx', he', hik', hk', hbq', -⟩ := hg'
    have c1 : nI e = nI e' := congrArg Prod.fst hx'
    have c2 : nI i = nI i' := congrArg (fun x : X6 => x.2.1) hx'
    have c3 : nI k = nI k' := congrArg (fun x : X6 => x.2.2.1) hx'
    rw [nI_eq (by omega) (by omega)] at c1 c2 c3
    subst c1
    subst c2
    subst c3
    have : gs σ i k b q xa.toInt e ↔ gs σ i k b' q' xa.toInt e := gs.congr (fun hi => by
      obtain ⟨a1, a2, a3, a4⟩ := hbq hi
      obtain ⟨b1, b2, b3, b4⟩ := hbq' hi
      have b1 : xb = nI b' := b1
      have b3 : xq = nI q' := b3
      rw [a1, nI_eq (by omega) (by omega)] at b1
      rw [a3, nI_eq (by omega) (by omega)] at b3
      exact ⟨b1, b3⟩)
    unfold yn at hr ⊢
    rw [← this]
    exact hr
  obtain ⟨fst, hfst⟩ : ∃ fst, fst = if i = 0 then eF σ e else b := ⟨_, rfl⟩
  have hf31 : fst < 31 := by
    rw [hfst]
    by_cases c : i = 0
    · rw [if_pos c]; exact hF
    · rw [if_neg c]; exact (hbq c).2.1
  have at38 : eA σ e = true → (¬ i = 0 → eF σ e = q) → OK 38 [(0, .inr 30), (1, .inl (nI e)), (2, .inl (nI i)), (3, .inl (nI k)), (4, .inl xb), (5, .inl xq), (6, .inl xa)] [.inl (nI fst)] σ := by
    intro hA hq
    have eix : nI 961 * (nI k - 1 - nI i) + nI 31 * nI (eT σ e) + nI fst = nI (ix (k - 1 - i) (eT σ e) fst) := by
      rw [show (1 : Int32) = nI 1 from rfl, nI_sub (show 1 ≤ k by omega), nI_sub (show i ≤ k - 1 by omega), nI_mul, nI_mul, nI_add, nI_add]
      unfold ix
      rw [Nat.add_assoc]
    have hlt := ix_lt (k := k - 1 - i) hT hf31
    have hmn := hMN (k - 1 - i) (by omega) (eT σ e) fst hT hf31
    obtain ⟨v, hv⟩ : ∃ v, v = σ 39 (ix (k - 1 - i) (eT σ e) fst) := ⟨_, rfl⟩
    rw [← hv] at hmn
    have hgb := eG_bd hN e he hA
    have gsi : gs σ i k b q xa.toInt e ↔ ∃ s, wsC σ (k - 1 - i) (eT σ e) fst s ∧ 0 < xa.toInt + eG σ e + s := by
      unfold gs
      rw [← hfst]
      exact ⟨fun h => h.2.2.2, fun h => ⟨he, hA, hq, h⟩⟩
    refine hC.go (fun _ => none) 60 ?_
    refine ⟨by decide, dk_cs (nI e) rfl rfl rfl hpe (fun r1 σ1 hq1 => ?_)⟩
    obtain ⟨hσ1, hr1⟩ := hq1
    have hr1 : r1 = nI (eT σ (nI e).toNatClampNeg) := hr1
    rw [ee] at hr1
    rw [hσ1, hr1]
    have ev : σ 39 (nI 961 * (nI k - 1 - nI i) + nI 31 * nI (eT σ e) + nI fst).toNatClampNeg = v := by rw [eix, nI_clamp (by omega), hv]
    refine ⟨30752, rfl, ?_, by decide, fun h => ?_, fun h => ?_⟩
    · show vp_in (nI 961 * (nI k - 1 - nI i) + nI 31 * nI (eT σ e) + nI fst) 30752
      rw [eix]
      exact vp_in_nI (by omega) (by omega)
    · have h : σ 39 (nI 961 * (nI k - 1 - nI i) + nI 31 * nI (eT σ e) + nI fst).toNatClampNeg ≤ -100000000 := h
      rw [ev, dk_le] at h
      have h : v.toInt ≤ -100000000 := h
      refine ⟨Or.inl rfl, post _ (Or.inr ⟨rfl, fun hh => ?_⟩)⟩
      obtain ⟨s, hs, -⟩ := gsi.mp hh
      rcases hmn with ⟨-, c⟩ | ⟨c, -⟩
      · exact c s hs
      · have := ws_bd (eG_bd hN) c
        omega
    · have h : ¬ σ 39 (nI 961 * (nI k - 1 - nI i) + nI 31 * nI (eT σ e) + nI fst).toNatClampNeg ≤ -100000000 := h
      rw [ev, dk_le] at h
      have h : ¬ v.toInt ≤ -100000000 := h
      obtain ⟨w1, w2⟩ : wsC σ (k - 1 - i) (eT σ e) fst v.toInt ∧ ∀ s, wsC σ (k - 1 - i) (eT σ e) fst s → s ≤ v.toInt := by
        rcases hmn with ⟨c, -⟩ | c
        · omega
        · exact c
      have hb := ws_bd (eG_bd hN) w1
      refine dk_cs (nI e) rfl rfl rfl hpe (fun r2 σ2 hq2 => ?_)
      obtain ⟨hσ2, hr2⟩ := hq2
      have hr2 : r2.toInt = eG σ (nI e).toNatClampNeg := hr2
      rw [ee] at hr2
      rw [hσ2]
      have hadd1 : (xa + r2).toInt = xa.toInt + eG σ e := by rw [← hr2]; exact dk_add (by omega) (by omega)
      have hadd2 : (xa + r2 + v).toInt = xa.toInt + eG σ e + v.toInt := by rw [← hadd1]; exact dk_add (by omega) (by omega)
      have ec : (0 : Int32) < xa + r2 + σ 39 (nI 961 * (nI k - 1 - nI i) + nI 31 * nI (eT σ e) + nI fst).toNatClampNeg ↔ 0 < xa.toInt + eG σ e + v.toInt := by
        rw [ev, dk_lt, hadd2, i0]
      refine ⟨fun h3 => ⟨Or.inl rfl, post _ (Or.inr ⟨rfl, fun hh => ?_⟩)⟩, fun h3 => ⟨Or.inr rfl, post _ (Or.inl ⟨rfl, gsi.mpr ⟨v.toInt, w1, ?_⟩⟩)⟩⟩
      · have h3 : xa + r2 + σ 39 (nI 961 * (nI k - 1 - nI i) + nI 31 * nI (eT σ e) + nI fst).toNatClampNeg ≤ 0 := h3
        obtain ⟨s, hs, hp⟩ := gsi.mp hh
        have := w2 s hs
        exact i32_nle.mpr (ec.mpr (by omega)) h3
      · have h3 : ¬ xa + r2 + σ 39 (nI 961 * (nI k - 1 - nI i) + nI 31 * nI (eT σ e) + nI fst).toNatClampNeg ≤ 0 := h3
        exact ec.mp (i32_nle.mp h3)
  have at24 : eA σ e = true → (¬ i = 0 → eF σ e = q) → OK 24 [(0, .inr 30), (1, .inl (nI e)), (2, .inl (nI i)), (3, .inl (nI k)), (4, .inl xb), (5, .inl xq), (6, .inl xa)] [] σ := by
    intro hA hq
    refine hC.go (fun q => if q = 38 then some 7 else none) 60 ?_
    refine ⟨fun h => ?_, fun h => dk_cs (nI e) rfl rfl rfl hpe (fun r1 σ1 hq1 => ?_)⟩
    · have h : ¬ nI i = nI 0 := h
      rw [nI_eq (by omega) (by omega)] at h
      have key := at38 hA hq
      rw [hfst, if_neg h, ← (hbq h).1] at key
      exact key
    · have h : ¬ ¬ nI i = nI 0 := h
      rw [nI_eq (by omega) (by omega)] at h
      obtain ⟨hσ1, hr1⟩ := hq1
      have hr1 : r1 = nI (eF σ (nI e).toNatClampNeg) := hr1
      rw [ee] at hr1
      rw [hσ1, hr1]
      have key := at38 hA hq
      rw [hfst, if_pos (Classical.not_not.mp h)] at key
      exact key
  refine hC.go (fun q => if q = 24 then some 7 else none) 60 ?_
  refine dk_cs (nI e) rfl rfl rfl hpe (fun r1 σ1 hq1 => ?_)
  obtain ⟨hσ1, hr1⟩ := hq1
  have hr1 : r1 = if eA σ (nI e).toNatClampNeg = true then 1 else 0 := hr1
  rw [ee] at hr1
  rw [hσ1]
  refine ⟨fun h => ⟨Or.inl rfl, post _ (Or.inr ⟨rfl, fun hh => ?_⟩)⟩, fun h => ⟨fun h2 => at24 ?_ (fun c => ?_), fun h2 => dk_cs (nI e) rfl rfl rfl hpe (fun r2 σ2 hq2 => ?_)⟩⟩
  · have h : r1 = 0 := h
    rw [hr1, if_pos hh.2.1] at h
    exact absurd h i32_ne10
  · have h : ¬ r1 = 0 := h
    apply Classical.byContradiction
    intro c
    rw [hr1, if_neg c] at h
    exact h rfl
  · exfalso
    have h2 : nI i ≤ nI 0 := h2
    rw [nI_leI (by omega) (by omega)] at h2
    omega
  · have h : ¬ r1 = 0 := h
    have hA : eA σ e = true := by
      apply Classical.byContradiction
      intro c
      rw [hr1, if_neg c] at h
      exact h rfl
    have h2 : ¬ nI i ≤ nI 0 := h2
    rw [nI_leI (by omega) (by omega)] at h2
    have hi0 : ¬ i = 0 := by omega
    obtain ⟨hσ2, hr2⟩ := hq2
    have hr2 : r2 = nI (eF σ (nI e).toNatClampNeg) := hr2
    rw [ee] at hr2
    rw [hσ2, hr2]
    obtain ⟨-, -, b3, b4⟩ := hbq hi0
    have eqq : nI (eF σ e) = xq ↔ eF σ e = q := by rw [b3, nI_eq (by omega) (by omega)]
    exact ⟨fun h3 => at24 hA (fun _ => eqq.mp h3), fun h3 => ⟨Or.inl rfl, post _ (Or.inr ⟨rfl, fun hh => h3 (eqq.mpr (hh.2.2.1 hi0))⟩)⟩⟩
theorem isL_ex {P : Nat → Prop} {e : Nat} (h : P e) : ∃ e0, e0 ≤ e ∧ isL P e0 := by
  obtain ⟨z, hz, hmin⟩ := ex_min P (fun e => e) e e h rfl
  exact ⟨z, hmin e h, hz, fun s hs hp => by have := hmin s hp; omega⟩
abbrev sp_findCircle : dk_M := dk_sp 1 false (fun _ : Unit => [.inr 30]) (fun _ σ => RN σ ∧ ¬ FE (aC σ) (uC σ) (vC σ) (gC σ) (mC σ)) (fun _ σ _ σ' => ∃ f N k ε, σ' = dk_up (dk_up (dk_up σ 39 f) 30 (upd (σ 30) 15 (nI k))) 40 N ∧ k ≤ 31 ∧ CRCC σ k ε ∧ ∀ i, i < k → N i = nI (eN σ (ε i)))
set_option maxRecDepth 100000 in
set_option maxHeartbeats 8000000 in
theorem q_findCircle : dk_pure (kX7_findCircle, fX7, [(117, sp_nextSums), (124, sp_goes), (107, sp_edgeFrom), (111, sp_edgeTo), (114, sp_edgeGap)], [], nX7, 8, false) sp_findCircle := by
  refine dk_sp_pure (fun _ _ _ => rfl) (fun _ => rfl) ?_
  rintro OK _ σ ⟨hR, hFE⟩ hC
  have hR0 := hR
  obtain ⟨hN, hn, hm, hdur, hcon, hoo⟩ := hR
  have h150 := nE150 hN
  have hm120 := hN.m120
  -- the way, once the count is known
  have way : ∀ (k : Nat) (f : Nat → Int32) (is : Int32), kminC σ k → k ≤ 31 → (∀ j, j ≤ k → ∀ p q, p < 31 → q < 31 → MN σ j p q (f (ix j p q)).toInt) → OK 105 [(0, .inr 30), (1, .inl (nI k)), (2, .inl is)] [] (dk_up σ 39 f) := by
    intro k f is hkm hk hMN
    obtain ⟨τ, hτ⟩ : ∃ τ : (Nat → Int32) → dk_S, τ = fun N => dk_up (dk_up (dk_up σ 39 f) 30 (upd (σ 30) 15 (nI k))) 40 N := ⟨_, rfl⟩
    have hRτ : ∀ N, RN (τ N) := fun N => by rw [hτ]; exact hR0
    have eE : ∀ N, nE (τ N) = nE σ := fun N => by rw [hτ]; rfl
    have eA' : ∀ N, eA (τ N) = eA σ := fun N => by rw [hτ]; rfl
    have eF' : ∀ N, eF (τ N) = eF σ := fun N => by rw [hτ]; rfl
    have eT' : ∀ N, eT (τ N) = eT σ := fun N => by rw [hτ]; rfl
    have eG' : ∀ N, eG (τ N) = eG σ := fun N => by rw [hτ]; rfl
    have eMN : ∀ N, MN (τ N) = MN σ := fun N => by rw [hτ]; rfl
    have egs : ∀ N, gs (τ N) = gs σ := fun N => by rw [hτ]; rfl
    have e39 : ∀ N, τ N 39 = f := fun N => by rw [hτ]; rfl
    have e301 : ∀ N, τ N 30 1 = nI (mC σ) := fun N => by rw [hτ]; exact hm
    have e40 : ∀ N N', dk_up (τ N) 40 N' = τ N' := fun N N' => by rw [hτ]; show dk_up (dk_up _ 40 N) 40 N' = _; rw [dk_up_up]
    have t40 : ∀ N, τ N 40 = N := fun N => by rw [hτ]; rfl
    have hpe : ∀ N e, e < nE σ → edgeP (nI e) (τ N) := fun N e he => ⟨hRτ N, e, by rw [eE]; exact he, rfl⟩
    -- the invariant: the first i edges are chosen
    have steps : ∀ (d i : Nat) (N : Nat → Int32) (ε : Nat → Nat) (xb xq xa : Int32), i + d = k → (∀ j, j < i → N j = nI (eN σ (ε j))) → (0 < i → isL (gkC σ k) (ε 0) ∧ xb = nI (eF σ (ε 0))) → (∀ j, j < i → isL (gnC σ (eF σ (ε 0)) (k - 1 - j) (psn (eT σ) (eF σ (ε 0)) ε j) (smn (eG σ) ε j)) (ε j)) → (0 < i → xq = nI (psn (eT σ) (eF σ (ε 0)) ε i)) → xa.toInt = smn (eG σ) ε i → OK 121 [(0, .inr 30), (1, .inl (nI k)), (2, .inl is), (3, .inl xb), (4, .inl xq), (5, .inl xa), (6, .inl (nI i))] [] (τ N) := by
      intro d
      induction d with
      | zero =>
        intro i N ε xb xq xa hi hNi h0 hL hq ha
        have hi : i = k := by omega
        subst hi
        refine hC.go (fun _ => none) 60 ?_
        refine ⟨fun _ => ⟨f, N, i, ε, by rw [hτ], hk, ⟨hkm, (h0 (by have := hkm.1; omega)).1, hL⟩, hNi⟩, fun h => absurd (Int32.le_refl _) h⟩
      | succ d ih =>
        intro i N ε xb xq xa hi hNi h0 hL hq ha
        have hik : i < k := by omega
        have ei : (nI i).toNatClampNeg = i := nI_clamp (by omega)
        -- sums stay small
        have hsm : ∀ j, j ≤ i → -(1000 * (j : Int)) ≤ smn (eG σ) ε j ∧ smn (eG σ) ε j ≤ 1000 * j := by
          intro j
          induction j with
          | zero => intro _; exact ⟨by show -(1000 * ((0 : Nat) : Int)) ≤ 0; omega, by show (0 : Int) ≤ 1000 * ((0 : Nat) : Int); omega⟩
          | succ j ihj =>
            intro hj
            have h1 := ihj (by omega)
            have h2 := (hL j (by omega)).1
            have h3 := eG_bd hN (ε j) h2.1 h2.2.1
            show -(1000 * ((j + 1 : Nat) : Int)) ≤ smn (eG σ) ε j + eG σ (ε j) ∧ smn (eG σ) ε j + eG σ (ε j) ≤ 1000 * ((j + 1 : Nat) : Int)
            omega
        have hs := hsm i (Nat.le_refl _)
        -- what goes says
        obtain ⟨P, hP⟩ : ∃ P : Nat → Prop, P = fun e => gs σ i k (eF σ (ε 0)) (psn (eT σ) (eF σ (ε 0)) ε i) (smn (eG σ) ε i) e := ⟨_, rfl⟩
        have hex : ∃ e, P e := by
          rw [hP]
          by_cases c : i = 0
          · subst c
            obtain ⟨-, ⟨e, he⟩, -⟩ := hkm
            obtain ⟨q1, q2, s, q3, q4⟩ := he
            refine ⟨e, q1, q2, fun c => absurd rfl c, s, ?_, ?_⟩
            · rw [if_pos rfl]; exact q3
            · show 0 < 0 + eG σ e + s; omega
          · obtain ⟨j, rfl⟩ : ∃ j, i = j + 1 := ⟨i - 1, by omega⟩
            obtain ⟨q1, q2, q3, s, q4, q5⟩ := (hL j (by omega)).1
            rw [show k - 1 - j = (k - 1 - (j + 1)) + 1 by omega] at q4
            obtain ⟨e, e1, e2, e3, s', e4, e5⟩ := q4
            refine ⟨e, e1, e2, fun _ => e3, s', ?_, ?_⟩
            · rw [if_neg c]; exact e4
            · show 0 < smn (eG σ) ε j + eG σ (ε j) + eG σ e + s'
              omega
        obtain ⟨e1, he1⟩ := hex
        obtain ⟨e0, -, hL0⟩ := isL_ex he1
        have he0 : e0 < nE σ := by have := hL0.1; rw [hP] at this; exact this.1
        have hA0 : eA σ e0 = true := by have := hL0.1; rw [hP] at this; exact this.2.1
        have hgop : ∀ e, e < nE σ → gop (τ N) e i k (eF σ (ε 0)) (psn (eT σ) (eF σ (ε 0)) ε i) (nI e, nI i, nI k, xb, xq, xa) := by
          intro e he
          refine ⟨rfl, by rw [eE]; exact he, hik, hk, fun c => ?_, ?_, ?_, ?_⟩
          · obtain ⟨j, rfl⟩ : ∃ j, i = j + 1 := ⟨i - 1, by omega⟩
            have hL0' := h0 (by omega)
            refine ⟨hL0'.2, (eF_lt hN hL0'.1.1.1).1, hq (by omega), ?_⟩
            exact (eT_lt hN (hL j (by omega)).1.1).1
          · show -100000 ≤ xa.toInt
            omega
          · show xa.toInt ≤ 100000
            omega
          · intro j hj p q hp hq
            rw [eMN, e39]
            exact hMN j (by omega) p q hp hq
        -- with the edge e0
        have found : ∀ (x7 : dk_V), x7 = .inl (nI e0) → OK 153 [(0, .inr 30), (1, .inl (nI k)), (2, .inl is), (3, .inl xb), (4, .inl xq), (5, .inl xa), (6, .inl (nI i)), (7, x7)] [] (τ N) := by
          rintro x7 rfl
          have ee : (nI e0).toNatClampNeg = e0 := nI_clamp (by omega)
          obtain ⟨δ, hδ⟩ : ∃ δ : Nat → Nat, δ = fun j => if j = i then e0 else ε j := ⟨_, rfl⟩
          have d0 : δ i = e0 := by rw [hδ]; simp
          have dl : ∀ j, j < i → δ j = ε j := fun j hj => by rw [hδ]; simp [show ¬ j = i by omega]
          have hg := hL0.1
          rw [hP] at hg
          obtain ⟨g1, g2, g3, s, g4, g5⟩ := hg
          have hδ0 : 0 < i → δ 0 = ε 0 := fun c => dl 0 c
          have hP0 : isL (gkC σ k) (δ 0) := by
            by_cases c : i = 0
            · subst c
              rw [d0]
              have : gkC σ k = P := by
                funext e
                apply propext
                rw [hP]
                constructor
                · rintro ⟨q1, q2, s, q3, q4⟩
                  exact ⟨q1, q2, fun c => absurd rfl c, s, by rw [if_pos rfl]; exact q3, by show 0 < 0 + eG σ e + s; omega⟩
                · rintro ⟨q1, q2, -, s, q3, q4⟩
                  rw [if_pos rfl] at q3
                  have q4 : 0 < 0 + eG σ e + s := q4
                  exact ⟨q1, q2, s, q3, by omega⟩
              rw [this]; exact hL0
            · rw [hδ0 (by omega)]; exact (h0 (by omega)).1
          have eps : ∀ j, j ≤ i → psn (eT σ) (eF σ (δ 0)) δ j = if j = 0 then eF σ (δ 0) else psn (eT σ) (eF σ (ε 0)) ε j := fun j hj => by
            cases j with
            | zero => rfl
            | succ j => show eT σ (δ j) = if j + 1 = 0 then _ else eT σ (ε j); rw [if_neg (by omega), dl j (by omega)]
          have esm : ∀ j, j ≤ i → smn (eG σ) δ j = smn (eG σ) ε j := fun j hj => smn_congr (fun q hq => dl q (by omega))
          have hLi : isL (gnC σ (eF σ (δ 0)) (k - 1 - i) (psn (eT σ) (eF σ (δ 0)) δ i) (smn (eG σ) δ i)) (δ i) := by
            rw [d0, eps i (Nat.le_refl _), esm i (Nat.le_refl _)]
            by_cases c : i = 0
            · subst c
              rw [if_pos rfl, d0]
              rw [if_pos rfl] at g4
              refine ⟨⟨g1, g2, rfl, s, g4, g5⟩, fun e he hh => ?_⟩
              obtain ⟨q1, q2, q3, s', q4, q5⟩ := hh
              refine hL0.2 e he ?_
              rw [hP]
              exact ⟨q1, q2, fun c => absurd rfl c, s', by rw [if_pos rfl, q3]; exact q4, q5⟩
            · rw [if_neg c, hδ0 (by omega)]
              rw [if_neg c] at g4
              refine ⟨⟨g1, g2, g3 c, s, g4, g5⟩, fun e he hh => ?_⟩
              obtain ⟨q1, q2, q3, s', q4, q5⟩ := hh
              refine hL0.2 e he ?_
              rw [hP]
              exact ⟨q1, q2, fun _ => q3, s', by rw [if_neg c]; exact q4, q5⟩
          have at200 : ∀ z N', z = nI (eF σ (δ 0)) → (∀ j, j < i + 1 → N' j = nI (eN σ (δ j))) → OK 200 [(0, .inr 30), (1, .inl (nI k)), (2, .inl is), (3, .inl xb), (4, .inl xq), (5, .inl xa), (6, .inl (nI i)), (7, .inl (nI e0))] [.inl z] (τ N') := by
            intro z N' hz hN'
            refine hC.go (fun q => if q = 121 then some 7 else none) 60 ?_
            refine ⟨by decide, dk_cs (nI e0) rfl rfl rfl (hpe N' e0 he0) (fun r1 σ1 hq1 => ?_)⟩
            obtain ⟨hσ1, hr1⟩ := hq1
            have hr1 : r1 = nI (eT (τ N') (nI e0).toNatClampNeg) := hr1
            rw [ee, eT'] at hr1
            rw [hσ1, hr1]
            refine ⟨by decide, dk_cs (nI e0) rfl rfl rfl (hpe N' e0 he0) (fun r2 σ2 hq2 => ?_)⟩
            obtain ⟨hσ2, hr2⟩ := hq2
            have hr2 : r2.toInt = eG (τ N') (nI e0).toNatClampNeg := hr2
            rw [ee, eG'] at hr2
            rw [hσ2]
            refine ⟨by decide, by decide, ?_⟩
            have hgb := eG_bd hN e0 he0 hA0
            have key := ih (i + 1) N' δ z (nI (eT σ e0)) (xa + r2) (by omega) hN' (fun _ => ⟨hP0, hz⟩) (fun j hj => ?_) (fun _ => ?_) ?_
            · rw [← nI_1 i] at key
              exact key
            · by_cases c : j = i
              · rw [c]; exact hLi
              · have hj' : j < i := by omega
                rw [dl j hj', eps j (by omega), esm j (by omega), hδ0 (by omega)]
                have := hL j hj'
                by_cases c2 : j = 0
                · subst c2; rw [if_pos rfl]; exact this
                · rw [if_neg c2]; exact this
            · show nI (eT σ e0) = nI (eT σ (δ i))
              rw [d0]
            · show (xa + r2).toInt = smn (eG σ) δ i + eG σ (δ i)
              rw [d0, esm i (Nat.le_refl _), ← ha, ← hr2]
              exact dk_add (by omega) (by omega)
          have at184 : ∀ z, z = nI (eN σ e0) → OK 184 [(0, .inr 30), (1, .inl (nI k)), (2, .inl is), (3, .inl xb), (4, .inl xq), (5, .inl xa), (6, .inl (nI i)), (7, .inl (nI e0))] [.inl z, .inl (nI i), .inr 40] (τ N) := by
            intro z hz
            have hN' : ∀ j, j < i + 1 → upd N i z j = nI (eN σ (δ j)) := fun j hj => by
              unfold upd
              by_cases c : j = i
              · rw [if_pos c, c, d0, hz]
              · rw [if_neg c, dl j (by omega)]; exact hNi j (by omega)
            have est : dk_up (τ N) 40 (upd (τ N 40) (nI i).toNatClampNeg z) = τ (upd N i z) := by rw [t40, e40, ei]
            refine hC.go (fun q => if q = 200 then some 8 else none) 60 ?_
            refine ⟨40, rfl, vp_in_nI (by omega) (by omega), ?_⟩
            rw [est]
            refine ⟨fun h => ?_, fun h => dk_cs (nI e0) rfl rfl rfl (hpe _ e0 he0) (fun r1 σ1 hq1 => ?_)⟩
            · have h : ¬ nI i = nI 0 := h
              rw [nI_eq (by omega) (by omega)] at h
              exact at200 xb (upd N i z) (by rw [hδ0 (by omega)]; exact (h0 (by omega)).2) hN'
            · have h : ¬ ¬ nI i = nI 0 := h
              rw [nI_eq (by omega) (by omega)] at h
              have h := Classical.not_not.mp h
              obtain ⟨hσ1, hr1⟩ := hq1
              have hr1 : r1 = nI (eF (τ (upd N i z)) (nI e0).toNatClampNeg) := hr1
              rw [ee, eF'] at hr1
              rw [hσ1]
              exact at200 r1 (upd N i z) (by rw [hr1, ← d0, h]) hN'
          refine hC.go (fun q => if q = 184 then some 8 else none) 60 ?_
          refine ⟨fun h => at184 _ ?_, fun h => at184 _ ?_⟩
          · have h : nI e0 < τ N 30 1 := h
            rw [e301, nI_ltI (by omega) (by omega)] at h
            unfold eN
            rw [if_pos h]
          · have h : ¬ nI e0 < τ N 30 1 := h
            rw [e301, nI_ltI (by omega) (by omega)] at h
            show nI 200 + nI e0 - τ N 30 1 = _
            rw [e301, nI_add, nI_sub (by omega)]
            unfold eN
            rw [if_neg h]
            congr 1
            omega
        -- looking for it
        have look : ∀ (g e : Nat), e + g = e0 → OK 130 [(0, .inr 30), (1, .inl (nI k)), (2, .inl is), (3, .inl xb), (4, .inl xq), (5, .inl xa), (6, .inl (nI i)), (7, .inl (nI e))] [] (τ N) := by
          intro g
          induction g with
          | zero =>
            intro e he
            have he : e = e0 := by omega
            subst he
            refine hC.go (fun q => if q = 153 then some 8 else none) 60 ?_
            refine dk_cs (nI e, nI i, nI k, xb, xq, xa) rfl rfl rfl ⟨hRτ N, e, i, k, _, _, hgop e he0⟩ (fun r σ1 hq1 => ?_)
            obtain ⟨hσ1, hr⟩ := hq1
            have hr := hr e i k _ _ (hgop e he0)
            rw [egs] at hr
            have hr : yn r (gs σ i k (eF σ (ε 0)) (psn (eT σ) (eF σ (ε 0)) ε i) xa.toInt e) := hr
            rw [ha] at hr
            have hp := hL0.1
            rw [hP] at hp
            rw [hσ1]
            rcases hr with ⟨hr, -⟩ | ⟨-, hr⟩
            · rw [hr]
              exact ⟨fun _ => found _ rfl, fun q => absurd i32_ne10 q⟩
            · exact absurd hp hr
          | succ g ihg =>
            intro e he
            have he' : e < nE σ := by omega
            refine hC.go (fun q => if q = 153 ∨ q = 130 then some 8 else none) 60 ?_
            refine dk_cs (nI e, nI i, nI k, xb, xq, xa) rfl rfl rfl ⟨hRτ N, e, i, k, _, _, hgop e he'⟩ (fun r σ1 hq1 => ?_)
            obtain ⟨hσ1, hr⟩ := hq1
            have hr := hr e i k _ _ (hgop e he')
            rw [egs] at hr
            have hr : yn r (gs σ i k (eF σ (ε 0)) (psn (eT σ) (eF σ (ε 0)) ε i) xa.toInt e) := hr
            rw [ha] at hr
            have hp := hL0.2 e (by omega)
            rw [hP] at hp
            rw [hσ1]
            rcases hr with ⟨-, hr⟩ | ⟨hr, -⟩
            · exact absurd hr hp
            · rw [hr]
              refine ⟨fun q => absurd rfl q, fun _ => ⟨by decide, ?_⟩⟩
              have key := ihg (e + 1) (by omega)
              rw [← nI_1 e] at key
              exact key
        refine hC.go (fun q => if q = 130 then some 8 else none) 60 ?_
        refine ⟨fun h => ?_, fun _ => ⟨by decide, look e0 0 (by omega)⟩⟩
        exfalso
        have h : nI k ≤ nI i := h
        rw [nI_leI (by omega) (by omega)] at h
        omega
    refine hC.go (fun q => if q = 121 then some 7 else none) 60 ?_
    refine ⟨by decide, by decide, by decide, by decide, ?_⟩
    have key := steps k 0 (σ 40) (fun _ => 0) (-1) (-1) 0 (by omega) (fun j hj => by omega) (fun c => by omega) (fun j hj => by omega) (fun c => by omega) rfl
    have est : τ (σ 40) = dk_up (dk_up σ 39 f) 30 (upd (σ 30) 15 (nI k)) := by
      rw [hτ]
      show dk_up (dk_up (dk_up σ 39 f) 30 (upd (σ 30) 15 (nI k))) 40 ((dk_up (dk_up σ 39 f) 30 (upd (σ 30) 15 (nI k))) 40) = _
      rw [dk_up_id]
    rw [est] at key
    exact key
  have rounds : ∀ (d k : Nat) (is : Int32) (f : Nat → Int32), k + d = 31 → (∀ j, j ≤ k → ∀ p q, p < 31 → q < 31 → MN σ j p q (f (ix j p q)).toInt) → ((is = 0 ∧ ∀ j, 1 ≤ j → j ≤ k → ∀ e, ¬ gkC σ j e) ∨ (is = 1 ∧ kminC σ k)) → OK 42 [(0, .inr 30), (1, .inl (nI k)), (2, .inl is)] [] (dk_up σ 39 f) := by
    intro d
    induction d with
    | zero =>
      intro k is f hk hMN his
      have hk : k = 31 := by omega
      subst hk
      refine hC.go (fun q => if q = 105 then some 3 else none) 60 ?_
      rcases his with ⟨-, his⟩ | ⟨-, his⟩
      · exact absurd (noc_FE hN (fun j h1 h2 e => his j h1 h2 e)) hFE
      · exact ⟨fun _ => way 31 f is his (by omega) hMN, fun _ => ⟨fun _ => way 31 f is his (by omega) hMN, fun h => absurd (show nI 31 ≤ nI 31 by decide) h⟩⟩
    | succ d ih =>
      intro k is f hk hMN his
      refine hC.go (fun q => if q = 105 then some 3 else if q = 62 then some 4 else none) 60 ?_
      rcases his with ⟨h0, his⟩ | ⟨h1, his⟩
      · subst h0
        refine ⟨fun q => absurd rfl q, fun _ => ⟨fun h => ?_, fun _ => ⟨by decide, ?_⟩⟩⟩
        · exfalso
          have h : nI 31 ≤ nI k := h
          rw [nI_leI (by omega) (by omega)] at h
          omega
        · have hpre : RN (dk_up σ 39 f) ∧ ∃ k', k' ≤ 30 ∧ nI k + 1 = nI (k' + 1) ∧ ∀ p q, p < 31 → q < 31 → MN (dk_up σ 39 f) k' p q (dk_up σ 39 f 39 (ix k' p q)).toInt := ⟨hR0, k, by omega, nI_1 k, fun p q hp hq => hMN k (Nat.le_refl _) p q hp hq⟩
          refine dk_cs (nI k + 1) rfl rfl rfl hpre (fun _ σ1 hq1 => ?_)
          obtain ⟨f', hσ1, hold, hnew⟩ := hq1 k (nI_1 k) (by omega)
          have hold : ∀ i, i < 961 * (k + 1) → f' i = f i := hold
          have hnew : ∀ p q, p < 31 → q < 31 → MN σ (k + 1) p q (f' (ix (k + 1) p q)).toInt := hnew
          rw [hσ1, dk_up_up]
          refine ⟨by decide, ?_⟩
          have hMN' : ∀ j, j ≤ k + 1 → ∀ p q, p < 31 → q < 31 → MN σ j p q (f' (ix j p q)).toInt := by
            intro j hj p q hp hq
            by_cases c : j = k + 1
            · rw [c]; exact hnew p q hp hq
            · have h1 := ix_lt (k := j) hp hq
              rw [hold (ix j p q) (by omega)]
              exact hMN j (by omega) p q hp hq
          have pc : ∀ p, p < 31 → (0 < (f' (ix (k + 1) p p)).toInt ↔ PCC σ (k + 1) p) := by
            intro p hp
            rcases hnew p p hp hp with ⟨c1, c2⟩ | ⟨c1, c2⟩
            · constructor
              · intro c; omega
              · rintro ⟨s, -, hs⟩; exact absurd hs (c2 s)
            · constructor
              · intro c; exact ⟨_, c, c1⟩
              · rintro ⟨s, h1, hs⟩
                have := c2 s hs
                omega
          have scan : ∀ (g x : Nat) (is : Int32), x + g = 31 → ((is = 0 ∧ ∀ p, p < x → ¬ PCC σ (k + 1) p) ∨ (is = 1 ∧ ∃ p, p < 31 ∧ PCC σ (k + 1) p)) → OK 62 [(0, .inr 30), (1, .inl (nI k + 1)), (2, .inl is), (3, .inl (nI x))] [] (dk_up σ 39 f') := by
            intro g
            induction g with
            | zero =>
              intro x is hx hI
              have hx : x = 31 := by omega
              subst hx
              refine hC.go (fun q => if q = 42 then some 3 else none) 60 ?_
              refine ⟨fun _ => ?_, fun h => absurd (show nI 31 ≤ nI 31 by decide) h⟩
              have key := ih (k + 1) is f' (by omega) hMN' (by
                rcases hI with ⟨q1, q2⟩ | ⟨q1, p, hp, q2⟩
                · left
                  refine ⟨q1, fun j h1 h2 e he => ?_⟩
                  by_cases c : j = k + 1
                  · subst c
                    exact q2 (eF σ e) (eF_lt hN he.1).1 ((PC_gk (by omega)).mpr ⟨e, he, rfl⟩)
                  · exact his j h1 (by omega) e he
                · right
                  obtain ⟨e, he, -⟩ := (PC_gk (by omega)).mp q2
                  exact ⟨q1, by omega, ⟨e, he⟩, fun j h1 h2 e' => his j h1 (by omega) e'⟩)
              rw [← nI_1 k] at key
              exact key
            | succ g ihg =>
              intro x is hx hI
              have at95 : ∀ b : Int32, ((b = 0 ∧ ∀ p, p < x + 1 → ¬ PCC σ (k + 1) p) ∨ (b = 1 ∧ ∃ p, p < 31 ∧ PCC σ (k + 1) p)) → OK 95 [(0, .inr 30), (1, .inl (nI k + 1)), (2, .inl is), (3, .inl (nI x))] [.inl b] (dk_up σ 39 f') := by
                intro b hb
                refine hC.go (fun q => if q = 62 then some 4 else none) 60 ?_
                refine ⟨by decide, by decide, ?_⟩
                have key := ihg (x + 1) b (by omega) hb
                rw [← nI_1 x] at key
                exact key
              have eix : nI 961 * (nI k + 1) + nI 32 * nI x = nI (ix (k + 1) x x) := by
                rw [nI_1, nI_mul, nI_mul, nI_add]
                unfold ix
                congr 1
                omega
              have hlt := ix_lt (k := k + 1) (show x < 31 by omega) (show x < 31 by omega)
              refine hC.go (fun q => if q = 95 then some 4 else none) 60 ?_
              refine ⟨fun h => ?_, fun _ => ⟨fun h => at95 1 (Or.inr ⟨rfl, ?_⟩), fun h => ⟨30752, rfl, ?_, fun h2 => at95 0 (Or.inl ⟨rfl, ?_⟩), fun h2 => at95 1 (Or.inr ⟨rfl, x, by omega, ?_⟩)⟩⟩⟩
              · exfalso
                have h : nI 31 ≤ nI x := h
                rw [nI_leI (by omega) (by omega)] at h
                omega
              · have h : ¬ is = 0 := h
                rcases hI with ⟨q, -⟩ | ⟨-, q⟩
                · exact absurd q h
                · exact q
              · show vp_in (nI 961 * (nI k + 1) + nI 32 * nI x) 30752
                rw [eix]
                exact vp_in_nI (by omega) (by omega)
              · have h : ¬ ¬ is = 0 := h
                have h2 : f' (nI 961 * (nI k + 1) + nI 32 * nI x).toNatClampNeg ≤ 0 := h2
                rw [eix, nI_clamp (by omega), dk_le, i0] at h2
                rcases hI with ⟨-, q⟩ | ⟨q, -⟩
                · intro p hp
                  by_cases c : p = x
                  · rw [c, ← pc x (by omega)]; omega
                  · exact q p (by omega)
                · exact absurd (by rw [q]; exact i32_ne10) h
              · have h2 : ¬ f' (nI 961 * (nI k + 1) + nI 32 * nI x).toNatClampNeg ≤ 0 := h2
                rw [eix, nI_clamp (by omega), dk_le, i0] at h2
                rw [← pc x (by omega)]
                omega
          exact scan 31 0 0 (by omega) (Or.inl ⟨rfl, fun p hp => by omega⟩)
      · subst h1
        exact ⟨fun _ => way k f 1 his (by omega) hMN, fun q => absurd i32_ne10 q⟩
  have first : ∀ (d i : Nat) (f : Nat → Int32), i + d = 961 → (∀ j, j < i → f j = if j / 31 = j % 31 then 0 else -100000000) → OK 2 [(0, .inr 30), (1, .inl (nI i))] [] (dk_up σ 39 f) := by
    intro d
    induction d with
    | zero =>
      intro i f hi hf
      have hi : i = 961 := by omega
      subst hi
      refine hC.go (fun q => if q = 42 then some 3 else none) 60 ?_
      refine ⟨fun _ => ⟨by decide, by decide, ?_⟩, fun h => absurd (show nI 961 ≤ nI 961 by decide) h⟩
      refine rounds 31 0 0 f (by omega) (fun j hj p q hp hq => ?_) (Or.inl ⟨rfl, fun j h1 h2 => by omega⟩)
      have hj : j = 0 := by omega
      subst hj
      have e1 : ix 0 p q = 31 * p + q := by unfold ix; omega
      rw [e1, hf _ (by omega), show (31 * p + q) / 31 = p by omega, show (31 * p + q) % 31 = q by omega]
      by_cases c : p = q
      · rw [if_pos c]
        exact Or.inr ⟨⟨c, rfl⟩, fun s hs => by rw [hs.2]; exact Int.le_refl _⟩
      · rw [if_neg c]
        exact Or.inl ⟨rfl, fun s hs => c hs.1⟩
    | succ d ih =>
      intro i f hi hf
      have ei : (nI i).toNatClampNeg = i := nI_clamp (by omega)
      have hii : vp_in (nI i) 30752 := vp_in_nI (by omega) (by omega)
      obtain ⟨dv, rm⟩ := nI_div31 i (by omega)
      have at31 : ∀ z, z = (if i / 31 = i % 31 then 0 else -100000000) → OK 31 [(0, .inr 30), (1, .inl (nI i))] [.inl z, .inl (nI i), .inr 39] (dk_up σ 39 f) := by
        intro z hz
        refine hC.go (fun q => if q = 2 then some 2 else none) 60 ?_
        refine ⟨30752, rfl, hii, by decide, ?_⟩
        show OK 2 [(0, .inr 30), (1, .inl (nI i + 1))] [] (dk_up (dk_up σ 39 f) 39 (upd f (nI i).toNatClampNeg z))
        rw [dk_up_up, ei, nI_1]
        refine ih (i + 1) _ (by omega) (fun j hj => ?_)
        unfold upd
        by_cases c : j = i
        · rw [if_pos c, c, hz]
        · rw [if_neg c]; exact hf j (by omega)
      have ecmp : nI i / 31 = nI i - nI i / 31 * 31 ↔ i / 31 = i % 31 := by
        rw [rm, dv, nI_eq (by omega) (by omega)]
      refine hC.go (fun q => if q = 31 then some 2 else none) 60 ?_
      refine ⟨fun h => ?_, fun _ => ⟨by decide, by decide, fun h => at31 _ ?_, fun h => at31 _ ?_⟩⟩
      · exfalso
        have h : nI 961 ≤ nI i := h
        rw [nI_leI (by omega) (by omega)] at h
        omega
      · have h : ¬ nI i / 31 = nI i - nI i / 31 * 31 := h
        rw [ecmp] at h
        rw [if_neg h]
      · have h : ¬ ¬ nI i / 31 = nI i - nI i / 31 * 31 := h
        rw [ecmp] at h
        rw [if_pos (Classical.not_not.mp h)]
        rfl
  refine hC.go (fun q => if q = 2 then some 2 else none) 60 ?_
  refine ⟨by decide, ?_⟩
  have key := first 961 0 (σ 39) (by omega) (fun j hj => by omega)
  rw [dk_up_id] at key
  exact key
