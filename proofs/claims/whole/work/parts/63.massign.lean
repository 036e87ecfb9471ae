/-! the reference's assign -/
def AS (σ : dk_S) (c g a b e : Nat → Int32) : dk_S := S3 (dk_up (dk_up σ 30 c) 45 g) a b e
theorem AS_S3 {σ : dk_S} {c g a b e a' b' e' : Nat → Int32} : S3 (AS σ c g a b e) a' b' e' = AS σ c g a' b' e' := S3_S3
theorem AS_45 {σ : dk_S} {c g a b e g' : Nat → Int32} : dk_up (AS σ c g a b e) 45 g' = AS σ c g' a b e := by
  unfold AS S3
  rw [dk_up_comm (show ¬ 48 = 45 by decide), dk_up_comm (show ¬ 47 = 45 by decide), dk_up_comm (show ¬ 46 = 45 by decide), dk_up_up]
theorem AS_30 {σ : dk_S} {c g a b e c' : Nat → Int32} : dk_up (AS σ c g a b e) 30 c' = AS σ c' g a b e := by
  unfold AS S3
  rw [dk_up_comm (show ¬ 48 = 30 by decide), dk_up_comm (show ¬ 47 = 30 by decide), dk_up_comm (show ¬ 46 = 30 by decide), dk_up_comm (show ¬ 45 = 30 by decide), dk_up_up]
theorem AS_id {σ : dk_S} : AS σ (σ 30) (σ 45) (σ 46) (σ 47) (σ 48) = σ := by
  unfold AS
  have e1 : dk_up σ 30 (σ 30) = σ := dk_up_id
  have e2 : dk_up σ 45 (σ 45) = σ := dk_up_id
  rw [e1, e2]
  exact S3_id
def RUm (σ : dk_S) (s : Int) (ru : Int32) : Prop := ∀ i, i < 32 → bt ru i = (decide (i < nC σ) && rn (xv (nC σ) (σ 43)) (dC σ) s i)
def MAS (σ : dk_S) (x r : Int32) (ru : Int32) (all : Nat) (c g : Nat → Int32) : Prop := RUm σ x.toInt ru ∧ r = nI all ∧ (∀ j, j < 25 → c j = σ 30 j) ∧ (c 25 = 1 ∧ c 26 = 0 ∧ c 27 = x ∧ c 28 = ru) ∧ nu (adjS (σ 36)) (ruP ru) allP all ∧ (∀ t, t < nC σ → GRat ru (σ 36) all g t) ∧ CVt ru (σ 36) all (c 29) ∧ CVw ru (σ 36) (c 29) (c 30)
abbrev sp_massign : dk_M := dk_sp 2 true (fun x : Int32 => [.inr 30, .inl x]) (fun _ σ => RN σ ∧ KB σ) (fun x σ r σ' => (¬ tfM (σ 30 20) (σ 30 19) ∧ r = -2 ∧ σ' = σ) ∨ (tfM (σ 30 20) (σ 30 19) ∧ ∃ ru all c g a b e, σ' = AS σ c g a b e ∧ MAS σ x r ru all c g))
theorem nu.full {sk : Nat → Int32} {S : Nat → Prop} {k : Nat} (h : nu (adjS sk) S (inW 65535) k) : nu (adjS sk) S allP k :=
  ⟨by obtain ⟨M, h1, h2⟩ := h.1
      exact ⟨M, h1.mono (fun _ _ q => q) (fun _ _ _ => trivial), h2⟩, fun N hN => h.2 N (hN.mono (fun _ _ q => q) (fun w hw _ => b_65535 w hw))⟩
set_option maxRecDepth 100000 in
set_option maxHeartbeats 8000000 in
theorem q_massign : dk_pure (kX7_assign, fX7, [(156, sp_has), (163, sp_runs), (177, sp_most)], [], nX7, 9, false) sp_massign := by
  refine dk_sp_pure (fun x x' e => by cases e; rfl) (fun _ => rfl) ?_
  rintro OK tm σ ⟨hR, hK⟩ hC
  have hN := hR.1
  have hn := hR.2.1
  have hn30 := hN.n30
  refine hC.go (fun q => if q = 14 then some 4 else none) 60 ?_
  refine dk_cs () rfl rfl rfl trivial (fun r σ1 hq => ?_)
  obtain ⟨hσ1, hr⟩ := hq
  rw [hσ1]
  have hr : r = dk_b (tfM (σ 30 20) (σ 30 19)) := hr
  refine ⟨fun h => ?_, fun h => Or.inl ⟨dk_b0 hr (Classical.not_not.mp h), rfl, rfl⟩⟩
  have htf := dk_b1 hr h
  have hK1 := hK htf
  obtain ⟨sk, hsk⟩ : ∃ sk, sk = σ 36 := ⟨_, rfl⟩
  have hRA : ∀ c g a b e, (∀ j, j < 25 → c j = σ 30 j) → RN (AS σ c g a b e) := fun c g a b e hc => by
    obtain ⟨k1, k2, k3, k4, k5, k6⟩ := hR
    exact ⟨k1, by show c 0 = nI (nC σ); rw [hc 0 (by omega)]; exact k2, by show c 1 = nI (mC σ); rw [hc 1 (by omega)]; exact k3, k4, k5, k6⟩
  have most : ∀ {so fr : Int32} {c g a b e : Nat → Int32} (K : List dk_V → dk_S → Prop) (st : List dk_V), st.length ≤ 8 → (∀ j, j < 25 → c j = σ 30 j) → (∀ i, i < 32 → bt so i = true → i < nC σ) → (∀ a' b' e' k, k ≤ 16 → nu (adjS sk) (ruP so) (inW fr) k → K (.inl (nI k) :: st) (AS σ c g a' b' e')) → dk_call sp_most (.inl fr :: .inl so :: .inr 30 :: st) (AS σ c g a b e) K := by
    intro so fr c g a b e K st hst hc hso hk
    refine ⟨?_, ?_, ⟨(so, fr), rfl, hRA c g a b e hc, hso⟩, fun r σ' h => ?_⟩
    · show 3 ≤ st.length + 1 + 1 + 1; omega
    · show st.length + 1 + 1 + 1 ≤ 3 + 8; omega
    · obtain ⟨a', b', e', k, h1, h2, h3, h4⟩ := h (so, fr) rfl
      have h4 : nu (adjS (σ 36)) (ruP so) (inW fr) k := h4
      rw [← hsk] at h4
      rw [h1, AS_S3, h2]
      exact hk a' b' e' k h3 h4
  -- the last loop: the cover
  have cover : ∀ (ru : Int32) (all : Nat) (g : Nat → Int32), all ≤ 16 → RUm σ tm.toInt ru → nu (adjS sk) (ruP ru) allP all → (∀ t, t < nC σ → GRat ru sk all g t) →
      ∀ (d t : Nat) (c a b e : Nat → Int32) (x4 x5 x6 : Int32), t + d = nC σ → (∀ j, j < 25 → c j = σ 30 j) → (c 25 = 1 ∧ c 26 = 0 ∧ c 27 = tm ∧ c 28 = ru) →
      (∀ i, i < 32 → (bt (c 29) i = true ↔ i < t ∧ bt ru i = true ∧ ∀ N, isM (adjS sk) (ruX ru i) allP N → szM N < all)) →
      (∀ i, i < 32 → (bt (c 30) i = true ↔ ∃ s, s < t ∧ bt ru s = true ∧ (¬ ∀ N, isM (adjS sk) (ruX ru s) allP N → szM N < all) ∧ bt (sk s) i = true)) →
      OK 242 [(0, .inr 30), (1, .inl tm), (2, .inl ru), (3, .inl (nI all)), (4, .inl x4), (5, .inl x5), (6, .inl x6), (7, .inl (nI t))] [] (AS σ c g a b e) := by
    intro ru all g hall hRU hnu hGR d
    have hru : ∀ i, i < 32 → bt ru i = true → i < nC σ := fun i hi hb => by
      rw [hRU i hi] at hb
      simp only [Bool.and_eq_true, decide_eq_true_eq] at hb
      exact hb.1
    induction d with
    | zero =>
      intro t c a b e x4 x5 x6 ht hc hc2 h29 h30
      have ht : t = nC σ := by omega
      subst ht
      have hc0 : c 0 = nI (nC σ) := by rw [hc 0 (by omega)]; exact hn
      refine hC.go (fun _ => none) 60 ?_
      refine ⟨fun _ => Or.inr ⟨htf, ru, all, c, g, a, b, e, rfl, hRU, rfl, hc, hc2, by rw [← hsk]; exact hnu, by rw [← hsk]; exact hGR, ?_, ?_⟩, fun h => ?_⟩
      · rw [← hsk]
        intro i hi
        rw [h29 i hi]
        exact ⟨fun q => q.2, fun q => ⟨hru i hi q.1, q⟩⟩
      · rw [← hsk]
        intro i hi
        rw [h30 i hi]
        constructor
        · rintro ⟨s, h1, h2, h3, h4⟩
          exact ⟨s, by omega, h2, fun q => h3 ((h29 s (by omega)).mp q).2.2, h4⟩
        · rintro ⟨s, h1, h2, h3, h4⟩
          exact ⟨s, hru s (by omega) h2, h2, fun q => h3 ((h29 s (by omega)).mpr ⟨hru s (by omega) h2, h2, q⟩), h4⟩
      · exfalso
        apply h
        show c 0 ≤ nI (nC σ)
        rw [hc0]
        exact Int32.le_refl _
    | succ d ih =>
      intro t c a b e x4 x5 x6 ht hc hc2 h29 h30
      have et : (nI t).toNatClampNeg = t := nI_clamp (by omega)
      have hit : vp_in (nI t) 30 := vp_in_nI (by omega) (by omega)
      have hc0 : c 0 = nI (nC σ) := by rw [hc 0 (by omega)]; exact hn
      have bit : ((ru >>> (nI t &&& 31)) &&& 1) = if bt ru t = true then 1 else 0 := b_get (by omega) ru
      refine hC.go (fun q => if q = 242 then some 8 else none) 60 ?_
      refine ⟨fun h => ?_, fun _ => ⟨fun h => ?_, fun h => ⟨by decide, ?_⟩⟩⟩
      · exfalso
        have h : c 0 ≤ nI t := h
        rw [hc0, nI_leI (by omega) (by omega)] at h
        omega
      · have h : ¬ ((ru >>> (nI t &&& 31)) &&& 1) = 0 := h
        rw [bit] at h
        have hbt : bt ru t = true := by
          apply Classical.byContradiction
          intro q
          rw [if_neg q] at h
          exact h rfl
        have hcut : ∀ i, i < 32 → (bt (ru &&& (((1 : Int32) <<< (nI t &&& 31)) ^^^ (-1))) i = true ↔ ruX ru t i) := fun i hi => by
          rw [b_cut ru (by omega) hi]
          unfold ruX
          simp
        refine most _ [] (by decide) hc (fun i hi hb => hru i hi ((hcut i hi).mp hb).1) (fun a' b' e' k hk hnk => ?_)
        have hnk' : nu (adjS sk) (ruX ru t) allP k := by
          have h1 := hnk.full
          obtain ⟨⟨M, m1, m2⟩, m3⟩ := h1
          exact ⟨⟨M, m1.mono (fun s hs q => (hcut s (by omega)).mp q) (fun _ _ q => q), m2⟩, fun N hN => m3 N (hN.mono (fun s hs q => (hcut s (by omega)).mpr q) (fun _ _ q => q))⟩
        refine ⟨fun h2 => ⟨30, rfl, hit, by decide, ?_⟩, fun h2 => ⟨by decide, ?_⟩⟩
        · have h2 : nI all ≤ nI k := h2
          rw [nI_leI (by omega) (by omega)] at h2
          have hno : ¬ ∀ N, isM (adjS sk) (ruX ru t) allP N → szM N < all := fun q => by
            obtain ⟨M, m1, m2⟩ := hnk'.1
            have := q M m1
            omega
          have e36 : AS σ c g a' b' e' 36 (nI t).toNatClampNeg = sk t := by rw [et, hsk]; rfl
          have est : dk_up (AS σ c g a' b' e') 30 (upd c 30 (c 30 ||| AS σ c g a' b' e' 36 (nI t).toNatClampNeg)) = AS σ (upd c 30 (c 30 ||| sk t)) g a' b' e' := by rw [e36, AS_30]
          have key := ih (t + 1) (upd c 30 (c 30 ||| sk t)) a' b' e' x4 x5 x6 (by omega) (fun j hj => by unfold upd; rw [if_neg (by omega)]; exact hc j hj) ⟨hc2.1, hc2.2.1, hc2.2.2.1, hc2.2.2.2⟩ (fun i hi => ?_) (fun i hi => ?_)
          · rw [← nI_1 t, ← est] at key
            exact key
          · show bt (c 29) i = true ↔ _
            rw [h29 i hi]
            constructor
            · rintro ⟨q1, q2⟩; exact ⟨by omega, q2⟩
            · rintro ⟨q1, q2⟩
              refine ⟨?_, q2⟩
              by_cases c' : i = t
              · rw [c'] at q2; exact absurd q2.2 hno
              · omega
          · show bt (c 30 ||| sk t) i = true ↔ _
            rw [b_or]
            have := h30 i hi
            constructor
            · intro q
              cases hb : bt (c 30) i with
              | true =>
                obtain ⟨s, k1, k2⟩ := this.mp hb
                exact ⟨s, by omega, k2⟩
              | false =>
                rw [hb] at q
                exact ⟨t, by omega, hbt, hno, by simpa using q⟩
            · rintro ⟨s, k1, k2, k3, k4⟩
              by_cases c' : s = t
              · rw [c'] at k4; rw [k4]; simp
              · rw [this.mpr ⟨s, by omega, k2, k3, k4⟩]; simp
        · have h2 : ¬ nI all ≤ nI k := h2
          rw [nI_leI (by omega) (by omega)] at h2
          have hyes : ∀ N, isM (adjS sk) (ruX ru t) allP N → szM N < all := fun N hN => by
            have := hnk'.2 N hN
            omega
          have est : dk_up (AS σ c g a' b' e') 30 (upd c 29 (c 29 ||| (1 : Int32) <<< (nI t &&& 31))) = AS σ (upd c 29 (c 29 ||| (1 : Int32) <<< (nI t &&& 31))) g a' b' e' := by rw [AS_30]
          have key := ih (t + 1) (upd c 29 (c 29 ||| (1 : Int32) <<< (nI t &&& 31))) a' b' e' x4 x5 x6 (by omega) (fun j hj => by unfold upd; rw [if_neg (by omega)]; exact hc j hj) ⟨hc2.1, hc2.2.1, hc2.2.2.1, hc2.2.2.2⟩ (fun i hi => ?_) (fun i hi => ?_)
          · rw [← nI_1 t, ← est] at key
            exact key
          · show bt (c 29 ||| (1 : Int32) <<< (nI t &&& 31)) i = true ↔ _
            rw [b_or, b_bit (by omega) hi]
            have := h29 i hi
            constructor
            · intro q
              cases hb : bt (c 29) i with
              | true =>
                obtain ⟨k1, k2⟩ := this.mp hb
                exact ⟨by omega, k2⟩
              | false =>
                rw [hb] at q
                have : i = t := by simpa using q
                rw [this]
                exact ⟨by omega, hbt, hyes⟩
            · rintro ⟨k1, k2⟩
              by_cases c' : i = t
              · simp [c']
              · rw [this.mpr ⟨by omega, k2⟩]; simp
          · show bt (c 30) i = true ↔ _
            rw [h30 i hi]
            constructor
            · rintro ⟨s, k1, k2⟩; exact ⟨s, by omega, k2⟩
            · rintro ⟨s, k1, k2, k3, k4⟩
              refine ⟨s, ?_, k2, k3, k4⟩
              by_cases c' : s = t
              · rw [c'] at k3; exact absurd hyes k3
              · omega
      · have h : ¬ ¬ ((ru >>> (nI t &&& 31)) &&& 1) = 0 := h
        rw [bit] at h
        have hno : ¬ bt ru t = true := fun q => by
          rw [if_pos q] at h
          exact h i32_ne10
        have key := ih (t + 1) c a b e x4 x5 x6 (by omega) hc hc2 (fun i hi => ?_) (fun i hi => ?_)
        · rw [← nI_1 t] at key
          exact key
        · rw [h29 i hi]
          constructor
          · rintro ⟨q1, q2⟩; exact ⟨by omega, q2⟩
          · rintro ⟨q1, q2⟩
            refine ⟨?_, q2⟩
            by_cases c' : i = t
            · rw [c'] at q2; exact absurd q2.1 hno
            · omega
        · rw [h30 i hi]
          constructor
          · rintro ⟨s, k1, k2⟩; exact ⟨s, by omega, k2⟩
          · rintro ⟨s, k1, k2, k3⟩
            refine ⟨s, ?_, k2, k3⟩
            by_cases c' : s = t
            · rw [c'] at k2; exact absurd k2 hno
            · omega
  -- the workers, task by task
  have give : ∀ (ru : Int32) (all : Nat), all ≤ 16 → RUm σ tm.toInt ru → nu (adjS sk) (ruP ru) allP all →
      ∀ (d t : Nat) (g a b e : Nat → Int32) (re fr : Int32), t + d = nC σ → (∀ s, s < t → GRat ru sk all g s) → (∀ i, i < 32 → (bt re i = true ↔ bt ru i = true ∧ t ≤ i)) → (∀ w, w < 16 → (bt fr w = true ↔ avl g t w)) →
      OK 68 [(0, .inr 30), (1, .inl tm), (2, .inl ru), (3, .inl (nI all)), (4, .inl re), (5, .inl fr), (6, .inl (nI (cp (fun s => ¬ g s = -1) t))), (7, .inl (nI t))] [] (AS σ (σ 30) g a b e) := by
    intro ru all hall hRU hnu d
    have hru : ∀ i, i < 32 → bt ru i = true → i < nC σ := fun i hi hb => by
      rw [hRU i hi] at hb
      simp only [Bool.and_eq_true, decide_eq_true_eq] at hb
      exact hb.1
    induction d with
    | zero =>
      intro t g a b e re fr ht hGR hre hfr
      have ht : t = nC σ := by omega
      subst ht
      refine hC.go (fun q => if q = 242 then some 8 else none) 60 ?_
      refine ⟨fun _ => ⟨Or.inr rfl, Or.inl rfl, by decide, ?_⟩, fun h => ?_⟩
      · obtain ⟨c, hcd⟩ : ∃ c, c = upd (upd (upd (upd (upd (upd (σ 30) 25 1) 26 0) 27 tm) 28 ru) 29 0) 30 0 := ⟨_, rfl⟩
        have key := cover ru all g hall hRU hnu hGR (nC σ) 0 c a b e re fr (nI (cp (fun s => ¬ g s = -1) (nC σ))) (by omega) (fun j hj => by rw [hcd]; unfold upd; rw [if_neg (by omega), if_neg (by omega), if_neg (by omega), if_neg (by omega), if_neg (by omega), if_neg (by omega)]) ⟨by rw [hcd]; rfl, by rw [hcd]; rfl, by rw [hcd]; rfl, by rw [hcd]; rfl⟩ (fun i hi => by
          rw [hcd]
          show bt 0 i = true ↔ _
          rw [b_0]
          exact ⟨fun q => (Bool.false_ne_true q).elim, fun q => by omega⟩) (fun i hi => by
          rw [hcd]
          show bt 0 i = true ↔ _
          rw [b_0]
          exact ⟨fun q => (Bool.false_ne_true q).elim, fun ⟨s, q, _⟩ => by omega⟩)
        have est : dk_up (dk_up (dk_up (dk_up (dk_up (dk_up (AS σ (σ 30) g a b e) 30 (upd (σ 30) 25 1)) 30 (upd (upd (σ 30) 25 1) 26 0)) 30 (upd (upd (upd (σ 30) 25 1) 26 0) 27 tm)) 30 (upd (upd (upd (upd (σ 30) 25 1) 26 0) 27 tm) 28 ru)) 30 (upd (upd (upd (upd (upd (σ 30) 25 1) 26 0) 27 tm) 28 ru) 29 0)) 30 (upd (upd (upd (upd (upd (upd (σ 30) 25 1) 26 0) 27 tm) 28 ru) 29 0) 30 0) = AS σ c g a b e := by
          rw [dk_up_up, dk_up_up, dk_up_up, dk_up_up, dk_up_up, AS_30, hcd]
        rw [← est] at key
        exact key
      · exfalso
        apply h
        show σ 30 0 ≤ nI (nC σ)
        rw [hn]
        exact Int32.le_refl _
    | succ d ih =>
      intro t g a b e re fr ht hGR hre hfr
      have et : (nI t).toNatClampNeg = t := nI_clamp (by omega)
      have hit : vp_in (nI t) 30 := vp_in_nI (by omega) (by omega)
      have bit : ((ru >>> (nI t &&& 31)) &&& 1) = if bt ru t = true then 1 else 0 := b_get (by omega) ru
      obtain ⟨g0, hg0⟩ : ∃ g0, g0 = upd g t (-1) := ⟨_, rfl⟩
      have g0t : g0 t = -1 := by rw [hg0]; unfold upd; rw [if_pos rfl]
      have g0o : ∀ s, ¬ s = t → g0 s = g s := fun s hs => by rw [hg0]; unfold upd; rw [if_neg hs]
      have hav0 : ∀ w, avl g0 t w ↔ avl g t w := fun w => ⟨fun q s hs => by rw [← g0o s (by omega)]; exact q s hs, fun q s hs => by rw [g0o s (by omega)]; exact q s hs⟩
      have hcp0 : cp (fun s => ¬ g0 s = -1) t = cp (fun s => ¬ g s = -1) t := cp_congr (fun s hs => by rw [g0o s (by omega)])
      have hGR0 : ∀ s, s < t → GRat ru sk all g0 s := fun s hs => (hGR s hs).congr (fun q hq => (g0o q (by omega)).symm)
      have h16 : cp (fun s => ¬ g s = -1) t ≤ 30 := by have := cp_le (fun s => ¬ g s = -1) t; omega
      have est0 : dk_up (AS σ (σ 30) g a b e) 45 (upd g (nI t).toNatClampNeg (-1)) = AS σ (σ 30) g0 a b e := by rw [AS_45, et, hg0]
      -- going on with the next task
      have nextN : ∀ (a b e : Nat → Int32) (re' : Int32), (∀ w, w < 16 → ¬ OKc ru sk all g0 t w) → (∀ i, i < 32 → (bt re' i = true ↔ bt ru i = true ∧ t + 1 ≤ i)) → OK 68 [(0, .inr 30), (1, .inl tm), (2, .inl ru), (3, .inl (nI all)), (4, .inl re'), (5, .inl fr), (6, .inl (nI (cp (fun s => ¬ g s = -1) t))), (7, .inl (nI t + 1))] [] (AS σ (σ 30) g0 a b e) := by
        intro a b e re' hno hre'
        have key := ih (t + 1) g0 a b e re' fr (by omega) (fun s hs => by
          by_cases c : s = t
          · rw [c]; exact Or.inl ⟨g0t, hno⟩
          · exact hGR0 s (by omega)) hre' (fun w hw => by
          rw [hfr w hw, ← hav0 w]
          constructor
          · intro q s hs e
            by_cases c : s = t
            · rw [c, g0t] at e; exact nI_m1 (by omega) e.symm
            · exact q s (by omega) e
          · intro q s hs; exact q s (by omega))
        rw [cp_succ_neg (fun q => q g0t), hcp0, ← nI_1 t] at key
        exact key
      refine hC.go (fun q => if q = 68 then some 8 else if q = 111 then some 9 else none) 60 ?_
      refine ⟨fun h => ?_, fun _ => ⟨30, rfl, hit, fun h => ⟨by decide, by decide, ?_⟩, fun h => ⟨by decide, ?_⟩⟩⟩
      · exfalso
        have h : σ 30 0 ≤ nI t := h
        rw [hn, nI_leI (by omega) (by omega)] at h
        omega
      · have h : ¬ ((ru >>> (nI t &&& 31)) &&& 1) = 0 := h
        rw [bit] at h
        have hbt : bt ru t = true := by
          apply Classical.byContradiction
          intro q
          rw [if_neg q] at h
          exact h rfl
        obtain ⟨re', hre'⟩ : ∃ re', re' = re &&& (((1 : Int32) <<< (nI t &&& 31)) ^^^ (-1)) := ⟨_, rfl⟩
        have hreb : ∀ i, i < 32 → (bt re' i = true ↔ bt ru i = true ∧ t + 1 ≤ i) := fun i hi => by
          rw [hre', b_cut re (by omega) hi]
          simp only [Bool.and_eq_true, Bool.not_eq_true', decide_eq_false_iff_not]
          rw [hre i hi]
          constructor
          · rintro ⟨⟨q1, q2⟩, q3⟩; exact ⟨q1, by omega⟩
          · rintro ⟨q1, q2⟩; exact ⟨⟨q1, by omega⟩, by omega⟩
        have seek : ∀ (gg w : Nat) (a b e : Nat → Int32), w + gg = 16 → (∀ v, v < w → ¬ OKc ru sk all g0 t v) → OK 111 [(0, .inr 30), (1, .inl tm), (2, .inl ru), (3, .inl (nI all)), (4, .inl re'), (5, .inl fr), (6, .inl (nI (cp (fun s => ¬ g s = -1) t))), (7, .inl (nI t)), (8, .inl (nI w))] [] (AS σ (σ 30) g0 a b e) := by
          intro gg
          induction gg with
          | zero =>
            intro w a b e hw hno
            have hw : w = 16 := by omega
            subst hw
            refine hC.go (fun q => if q = 68 then some 8 else none) 60 ?_
            exact ⟨fun _ => ⟨by decide, nextN a b e re' hno hreb⟩, fun h => absurd (show nI 16 ≤ nI 16 by decide) h⟩
          | succ gg ihg =>
            intro w a b e hw hno
            have ew : (nI w).toNatClampNeg = w := nI_clamp (by omega)
            have e45 : ∀ a b e, AS σ (σ 30) g0 a b e 45 (nI t).toNatClampNeg = -1 := fun a b e => by rw [et]; exact g0t
            have e36 : AS σ (σ 30) g0 a b e 36 (nI t).toNatClampNeg = sk t := by rw [et, hsk]; rfl
            have bit2 : (((AS σ (σ 30) g0 a b e 36 (nI t).toNatClampNeg &&& fr) >>> (nI w &&& 31)) &&& 1) = if (bt (sk t) w = true ∧ bt fr w = true) then 1 else 0 := by
              rw [e36, b_get (by omega), b_and]
              cases bt (sk t) w <;> cases bt fr w <;> simp
            have on : ∀ a b e, ¬ OKc ru sk all g0 t w → OK 111 [(0, .inr 30), (1, .inl tm), (2, .inl ru), (3, .inl (nI all)), (4, .inl re'), (5, .inl fr), (6, .inl (nI (cp (fun s => ¬ g s = -1) t))), (7, .inl (nI t)), (8, .inl (nI w + 1))] [] (AS σ (σ 30) g0 a b e) := by
              intro a b e hn'
              rw [nI_1]
              refine ihg (w + 1) a b e (by omega) (fun v hv => ?_)
              by_cases c : v = w
              · rw [c]; exact hn'
              · exact hno v (by omega)
            refine hC.go (fun q => if q = 68 then some 8 else if q = 111 then some 9 else none) 60 ?_
            refine ⟨fun h => ?_, fun _ => ⟨30, rfl, hit, fun h => absurd (e45 a b e) h, fun _ => ⟨30, rfl, hit, fun h => ⟨by decide, on a b e (fun q => ?_)⟩, fun h => ?_⟩⟩⟩
            · exfalso
              have h : nI 16 ≤ nI w := h
              rw [nI_leI (by omega) (by omega)] at h
              omega
            · have h : (((AS σ (σ 30) g0 a b e 36 (nI t).toNatClampNeg &&& fr) >>> (nI w &&& 31)) &&& 1) = 0 := h
              rw [bit2, if_pos ⟨q.2.1, (hfr w (by omega)).mpr ((hav0 w).mp q.2.2.1)⟩] at h
              exact absurd h i32_ne10
            · have h : ¬ (((AS σ (σ 30) g0 a b e 36 (nI t).toNatClampNeg &&& fr) >>> (nI w &&& 31)) &&& 1) = 0 := h
              rw [bit2] at h
              have hyes : bt (sk t) w = true ∧ bt fr w = true := by
                apply Classical.byContradiction
                intro q
                rw [if_neg q] at h
                exact h rfl
              obtain ⟨hy1, hy2⟩ := hyes
              have hav := (hfr w (by omega)).mp hy2
              obtain ⟨fr', hfr'⟩ : ∃ fr', fr' = fr &&& (((1 : Int32) <<< (nI w &&& 31)) ^^^ (-1)) := ⟨_, rfl⟩
              have hfrb : ∀ v, v < 16 → (bt fr' v = true ↔ avl g0 t v ∧ ¬ v = w) := fun v hv => by
                rw [hfr', b_cut fr (by omega) (by omega)]
                simp only [Bool.and_eq_true, Bool.not_eq_true', decide_eq_false_iff_not]
                rw [hfr v hv, hav0 v]
              refine most _ _ (Nat.le_of_ble_eq_true rfl) (fun j _ => rfl) (fun i hi hb => ?_) (fun a' b' e' k hk hnk => ?_)
              · exact hru i hi ((hreb i hi).mp hb).1
              · have hnk : nu (adjS sk) (ruP re') (inW (fr &&& (((1 : Int32) <<< (nI w &&& 31)) ^^^ (-1)))) k := hnk
                rw [← hfr'] at hnk
                have hnk' : nu (adjS sk) (ltr ru t) (fun v => avl g0 t v ∧ ¬ v = w) k := by
                  obtain ⟨⟨M, m1, m2⟩, m3⟩ := hnk
                  exact ⟨⟨M, m1.mono (fun s hs q => by have := (hreb s (by omega)).mp q; exact ⟨by omega, this.1⟩) (fun v hv q => (hfrb v hv).mp q), m2⟩, fun N hN => m3 N (hN.mono (fun s hs q => (hreb s (by omega)).mpr ⟨q.2, by have := q.1; omega⟩) (fun v hv q => (hfrb v hv).mpr q))⟩
                have eadd : nI (cp (fun s => ¬ g s = -1) t) + 1 + nI k = nI (cp (fun s => ¬ g s = -1) t + 1 + k) := by rw [nI_1, nI_add]
                refine ⟨fun h2 => ⟨30, rfl, hit, by decide, by decide, by decide, ?_⟩, fun h2 => ⟨by decide, on a' b' e' (fun q => ?_)⟩⟩
                · have h2 : nI all ≤ nI (cp (fun s => ¬ g s = -1) t) + 1 + nI k := h2
                  rw [eadd, nI_leI (by omega) (by omega)] at h2
                  have hOK : OKc ru sk all g0 t w := by
                    obtain ⟨M, m1, m2⟩ := hnk'.1
                    refine ⟨hbt, hy1, (hav0 w).mpr hav, M, m1, ?_⟩
                    rw [hcp0, m2]
                    exact h2
                  obtain ⟨g1, hg1⟩ : ∃ g1, g1 = upd g0 t (nI w) := ⟨_, rfl⟩
                  have g1t : g1 t = nI w := by rw [hg1]; unfold upd; rw [if_pos rfl]
                  have g1o : ∀ s, ¬ s = t → g1 s = g0 s := fun s hs => by rw [hg1]; unfold upd; rw [if_neg hs]
                  have est1 : dk_up (AS σ (σ 30) g0 a' b' e') 45 (upd g0 (nI t).toNatClampNeg (nI w)) = AS σ (σ 30) g1 a' b' e' := by rw [AS_45, et, hg1]
                  have hlt : ∀ s, s < t → g0 s = g1 s := fun s hs => (g1o s (by omega)).symm
                  have hlt' : ∀ s, s < t → g1 s = g0 s := fun s hs => g1o s (by omega)
                  have key := ih (t + 1) g1 a' b' e' re' fr' (by omega) (fun s hs => by
                    by_cases c : s = t
                    · rw [c]
                      exact Or.inr ⟨w, by omega, g1t, hOK.congr hlt, fun v hv q => hno v hv (q.congr hlt')⟩
                    · exact (hGR0 s (by omega)).congr (fun q hq => hlt q (by omega))) hreb (fun v hv => by
                    rw [hfrb v hv]
                    constructor
                    · rintro ⟨q1, q2⟩ s hs e
                      by_cases c : s = t
                      · rw [c, g1t, nI_eq (by omega) (by omega)] at e; exact q2 e.symm
                      · rw [g1o s c] at e; exact q1 s (by omega) e
                    · intro q
                      exact ⟨fun s hs e => q s (by omega) (by rw [g1o s (by omega)]; exact e), fun c => q t (by omega) (by rw [g1t, c])⟩)
                  have ecnt : cp (fun s => ¬ g1 s = -1) (t + 1) = cp (fun s => ¬ g s = -1) t + 1 := by
                    rw [cp_succ_pos (by rw [g1t]; exact nI_m1 (by omega))]
                    congr 1
                    rw [← hcp0]
                    exact cp_congr (fun s hs => by rw [g1o s (by omega)])
                  rw [ecnt, ← nI_1, ← nI_1 t, ← est1, hfr'] at key
                  have g1ne : ¬ dk_up (AS σ (σ 30) g0 a' b' e') 45 (upd g0 (nI t).toNatClampNeg (nI w)) 45 (nI t).toNatClampNeg = -1 := by
                    show ¬ upd g0 (nI t).toNatClampNeg (nI w) (nI t).toNatClampNeg = -1
                    unfold upd
                    rw [if_pos rfl]
                    exact nI_m1 (by omega)
                  show OK 111 [(0, .inr 30), (1, .inl tm), (2, .inl ru), (3, .inl (nI all)), (4, .inl re'), (5, .inl (fr &&& (((1 : Int32) <<< (nI w &&& 31)) ^^^ (-1)))), (6, .inl (nI (cp (fun s => ¬ g s = -1) t) + 1)), (7, .inl (nI t)), (8, .inl (nI w + 1))] [] (dk_up (AS σ (σ 30) g0 a' b' e') 45 (upd g0 (nI t).toNatClampNeg (nI w)))
                  refine hC.go (fun q => if q = 68 then some 8 else none) 60 ?_
                  exact ⟨fun _ => ⟨by decide, key⟩, fun _ => ⟨30, rfl, hit, fun _ => ⟨by decide, key⟩, fun q => absurd g1ne q⟩⟩
                · have h2 : ¬ nI all ≤ nI (cp (fun s => ¬ g s = -1) t) + 1 + nI k := h2
                  rw [eadd, nI_leI (by omega) (by omega)] at h2
                  obtain ⟨-, -, -, N, q1, q2⟩ := q
                  have := hnk'.2 N q1
                  rw [hcp0] at q2
                  omega
        have key := seek 16 0 a b e (by omega) (fun v hv => by omega)
        rw [← est0, hre'] at key
        exact key
      · have h : ¬ ¬ ((ru >>> (nI t &&& 31)) &&& 1) = 0 := h
        rw [bit] at h
        have hno : ¬ bt ru t = true := fun q => by
          rw [if_pos q] at h
          exact h i32_ne10
        have key := nextN a b e re (fun w hw q => hno q.1) (fun i hi => by
          rw [hre i hi]
          constructor
          · rintro ⟨q1, q2⟩
            refine ⟨q1, ?_⟩
            by_cases c : i = t
            · rw [c] at q1; exact absurd q1 hno
            · omega
          · rintro ⟨q1, q2⟩; exact ⟨q1, by omega⟩)
        rw [← est0] at key
        exact key
  -- who runs
  have run : ∀ (d t : Nat) (ru : Int32), t + d = nC σ → (∀ i, i < 32 → bt ru i = (decide (i < t) && rn (xv (nC σ) (σ 43)) (dC σ) tm.toInt i)) → OK 14 [(0, .inr 30), (1, .inl tm), (2, .inl ru), (3, .inl (nI t))] [] σ := by
    intro d
    induction d with
    | zero =>
      intro t ru ht hru
      have ht : t = nC σ := by omega
      subst ht
      refine hC.go (fun q => if q = 68 then some 8 else none) 60 ?_
      refine ⟨fun _ => ?_, fun h => ?_⟩
      · have hru' : ∀ i, i < 32 → bt ru i = true → i < nC σ := fun i hi hb => by
          rw [hru i hi] at hb
          simp only [Bool.and_eq_true, decide_eq_true_eq] at hb
          exact hb.1
        have m := most (so := ru) (fr := 65535) (c := σ 30) (g := σ 45) (a := σ 46) (b := σ 47) (e := σ 48) (fun st τ => dk_run (kX7_assign, fX7, [(156, sp_has), (163, sp_runs), (177, sp_most)], [], nX7, 9, false) (fun r σ' => (¬ tfM (σ 30 20) (σ 30 19) ∧ r = -2 ∧ σ' = σ) ∨ (tfM (σ 30 20) (σ 30 19) ∧ ∃ ru all c g a b e, σ' = AS σ c g a b e ∧ MAS σ tm r ru all c g)) OK (fun q => if q = 68 then some 8 else none) 53 54 [(0, .inr 30), (1, .inl tm), (2, .inl ru), (3, .inl (nI (nC σ)))] st τ) [] (by decide) (fun _ _ => rfl) hru' (fun a' b' e' k hk hnk => by
          refine ⟨by decide, by decide, by decide, by decide, by decide, ?_⟩
          exact give ru k hk hru hnk.full (nC σ) 0 (σ 45) a' b' e' ru 65535 (by omega) (fun s hs => by omega) (fun i hi => ⟨fun q => ⟨q, by omega⟩, fun q => q.1⟩) (fun w hw => ⟨fun _ s hs => by omega, fun _ => b_65535 w hw⟩))
        rw [AS_id] at m
        exact m
      · exfalso
        apply h
        show σ 30 0 ≤ nI (nC σ)
        rw [hn]
        exact Int32.le_refl _
    | succ d ih =>
      intro t ru ht hru
      have et : (nI t).toNatClampNeg = t := nI_clamp (by omega)
      have at39 : ∀ z : Int32, (∀ i, i < 32 → bt (ru ||| z) i = (decide (i < t + 1) && rn (xv (nC σ) (σ 43)) (dC σ) tm.toInt i)) → OK 39 [(0, .inr 30), (1, .inl tm), (2, .inl ru), (3, .inl (nI t))] [.inl z, .inl ru] σ := by
        intro z hz
        refine hC.go (fun q => if q = 14 then some 4 else none) 60 ?_
        refine ⟨by decide, by decide, ?_⟩
        have key := ih (t + 1) (ru ||| z) (by omega) hz
        rw [← nI_1 t] at key
        exact key
      refine hC.go (fun q => if q = 39 then some 4 else none) 60 ?_
      refine ⟨fun h => ?_, fun _ => dk_cs (nI t, tm) rfl rfl rfl ⟨hR, hK1, t, by omega, rfl⟩ (fun r2 σ2 hq2 => ?_)⟩
      · exfalso
        have h : σ 30 0 ≤ nI t := h
        rw [hn, nI_leI (by omega) (by omega)] at h
        omega
      obtain ⟨hσ2, hr2⟩ := hq2
      have hr2 : r2 = if rn (xv (nC σ) (σ 43)) (dC σ) tm.toInt (nI t).toNatClampNeg = true then 1 else 0 := hr2
      rw [et] at hr2
      rw [hσ2]
      refine ⟨fun h => at39 0 (fun i hi => ?_), fun h => at39 _ (fun i hi => ?_)⟩
      · have h : r2 = 0 := h
        have hno : rn (xv (nC σ) (σ 43)) (dC σ) tm.toInt t = false := by
          cases hb : rn (xv (nC σ) (σ 43)) (dC σ) tm.toInt t with
          | false => rfl
          | true => rw [hr2, if_pos hb] at h; exact absurd h i32_ne10
        rw [b_or, b_0, hru i hi, Bool.or_false]
        by_cases c : i = t
        · rw [c, hno]; simp
        · have : (i < t) ↔ (i < t + 1) := by omega
          simp [this]
      · have h : ¬ r2 = 0 := h
        have hyes : rn (xv (nC σ) (σ 43)) (dC σ) tm.toInt t = true := by
          apply Classical.byContradiction
          intro q
          rw [hr2, if_neg q] at h
          exact h rfl
        show bt (ru ||| (1 : Int32) <<< (nI t &&& 31)) i = _
        rw [b_or, hru i hi, b_bit (by omega) hi]
        by_cases c : i = t
        · rw [c, hyes]; simp
        · have : (i < t) ↔ (i < t + 1) := by omega
          simp [this, c]
  refine ⟨by decide, by decide, run (nC σ) 0 0 (by omega) (fun i hi => ?_)⟩
  rw [b_0]
  simp
