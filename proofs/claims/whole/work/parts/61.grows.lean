/-! the reference's grows -/
theorem S3_46 {σ : dk_S} {a b c x : Nat → Int32} : dk_up (S3 σ a b c) 46 x = S3 σ x b c := by
  unfold S3
  rw [dk_up_comm (show ¬ 48 = 46 by decide), dk_up_comm (show ¬ 47 = 46 by decide), dk_up_up]
theorem S3_47 {σ : dk_S} {a b c x : Nat → Int32} : dk_up (S3 σ a b c) 47 x = S3 σ a x c := by
  unfold S3
  rw [dk_up_comm (show ¬ 48 = 47 by decide), dk_up_up]
theorem S3_48 {σ : dk_S} {a b c x : Nat → Int32} : dk_up (S3 σ a b c) 48 x = S3 σ a b x := by
  unfold S3
  rw [dk_up_up]
theorem S3_id {σ : dk_S} : S3 σ (σ 46) (σ 47) (σ 48) = σ := by
  unfold S3
  have e1 : dk_up σ 46 (σ 46) = σ := dk_up_id
  have e2 : dk_up σ 47 (σ 47) = σ := dk_up_id
  have e3 : dk_up σ 48 (σ 48) = σ := dk_up_id
  rw [e1, e2, e3]
theorem S3_S3 {σ : dk_S} {a b c a' b' c' : Nat → Int32} : S3 (S3 σ a b c) a' b' c' = S3 σ a' b' c' := by
  show dk_up (dk_up (dk_up (S3 σ a b c) 46 a') 47 b') 48 c' = _
  rw [S3_46, S3_47, S3_48]
set_option maxRecDepth 100000 in
set_option maxHeartbeats 8000000 in
theorem q_grows : dk_pure (kX7_grows, fX7, [(172, sp_changes)], [], nX7, 9, true) sp_grows := by
  refine dk_sp_pure (fun x x' e => by obtain ⟨a, b⟩ := x; obtain ⟨a', b'⟩ := x'; cases e; rfl) (fun _ => rfl) ?_
  rintro OK ⟨xt, fr⟩ σ ⟨t, ht, hxt, hWK, hnt⟩ hC
  have hxt : xt = nI t := hxt
  subst hxt
  have hWK : WK (σ 36) fr (σ 46) := hWK
  have et : (nI t).toNatClampNeg = t := nI_clamp (by omega)
  obtain ⟨sk, hsk⟩ : ∃ sk, sk = σ 36 := ⟨_, rfl⟩
  obtain ⟨wh, hwh⟩ : ∃ wh, wh = σ 46 := ⟨_, rfl⟩
  rw [← hsk, ← hwh] at hWK
  rw [← hwh] at hnt
  have nort : ∀ w, w < 16 → ¬ wh w = nI t := fun w hw e => hnt ⟨w, hw, e⟩
  have post : ∀ (r : Int32) (wh' bk wa : Nat → Int32), WK sk fr wh' → ((r = 1 ∧ (∀ s, s < 30 → (hd wh' s ↔ hd wh s ∨ s = t)) ∧ ∀ Z X : Nat → Prop, ¬ Z t → (∀ s w, s < 30 → w < 16 → Z s → bt (sk s) w = true → bt fr w = true → X w) → (∀ w, w < 16 → X w → ∃ s, s < 30 ∧ Z s ∧ wh w = nI s) → ∀ w, w < 16 → X w → wh' w = wh w) ∨
     (r = 0 ∧ wh' = wh ∧ ∃ R Y : Nat → Prop, R t ∧ (∀ s, R s → s = t ∨ hd wh s) ∧ (∀ s w, s < 30 → w < 16 → R s → bt (sk s) w = true → bt fr w = true → Y w) ∧ ∀ w, w < 16 → Y w → ∃ s, s < 30 ∧ R s ∧ wh w = nI s)) →
     ∀ t2, t2 < 30 → nI t = nI t2 → ∃ wh2 bk2 wa2, S3 σ wh' bk wa = S3 σ wh2 bk2 wa2 ∧ WK (σ 36) fr wh2 ∧
    ((r = 1 ∧ (∀ s, s < 30 → (hd wh2 s ↔ hd (σ 46) s ∨ s = t2)) ∧ ∀ Z X : Nat → Prop, ¬ Z t2 → (∀ s w, s < 30 → w < 16 → Z s → bt (σ 36 s) w = true → bt fr w = true → X w) → (∀ w, w < 16 → X w → ∃ s, s < 30 ∧ Z s ∧ σ 46 w = nI s) → ∀ w, w < 16 → X w → wh2 w = σ 46 w) ∨
     (r = 0 ∧ wh2 = σ 46 ∧ ∃ R Y : Nat → Prop, R t2 ∧ (∀ s, R s → s = t2 ∨ hd (σ 46) s) ∧ (∀ s w, s < 30 → w < 16 → R s → bt (σ 36 s) w = true → bt fr w = true → Y w) ∧ ∀ w, w < 16 → Y w → ∃ s, s < 30 ∧ R s ∧ σ 46 w = nI s)) := by
    intro r wh' bk wa h1 h2 t2 ht2 e
    rw [nI_eq (by omega) (by omega)] at e
    subst e
    rw [hsk] at h1 h2
    rw [hwh] at h2
    exact ⟨wh', bk, wa, rfl, h1, h2⟩
  -- a worker without a task was found
  have at143 : ∀ (S : Nat → Prop) (fp qt : Nat → Nat) (q d : Nat) (bk wa : Nat → Int32) (se fi ma : Int32), BG sk fr wh bk t S fp qt q → d < 16 → S d → wh d = -1 → OK 143 [(0, .inr 30), (1, .inl (nI t)), (2, .inl fr), (3, .inl se), (4, .inl fi), (5, .inl ma), (6, .inl (nI d))] [] (S3 σ wh bk wa) := by
    intro S fp qt q d bk wa se fi ma hB hd16 hS hdf
    have hchg : chg (S3 σ wh bk wa) fr S fp qt q d t := by
      refine ⟨?_, hd16, hS, hdf⟩
      show BG (σ 36) fr wh bk t S fp qt q
      rw [← hsk]; exact hB
    refine hC.go (fun _ => none) 60 ?_
    refine ⟨fun _ => ?_, fun q => absurd (nI_m1 (by omega)) q⟩
    refine dk_cs (nI d, nI t) rfl rfl rfl ⟨fr, S, fp, qt, q, d, t, rfl, hchg⟩ (fun _ σ1 hq1 => ?_)
    obtain ⟨wh', hσ1, hp⟩ := hq1
    obtain ⟨p1, p2, p3⟩ := hp fr S fp qt q d t rfl hchg
    have p1 : WK (σ 36) fr wh' := p1
    have p2 : ∀ s, s < 30 → (hd wh' s ↔ hd wh s ∨ s = t) := p2
    have p3 : ∀ w, w < 16 → wh' w = wh w ∨ CHm (S3 σ wh bk wa) d t w := p3
    rw [← hsk] at p1
    rw [hσ1, S3_46]
    refine ⟨Or.inr rfl, post 1 wh' bk wa p1 (Or.inl ⟨rfl, p2, fun Z X hZt h1 h2 w hw hX => ?_⟩)⟩
    rcases p3 w hw with q | q
    · exact q
    · exfalso
      have := q (fun w => CHm (S3 σ wh bk wa) d t w ∧ ¬ X w) ⟨fun P h0 _ => h0, fun hx => by
        obtain ⟨s, hs, -, e⟩ := h2 d hd16 hx
        rw [hdf] at e
        exact nI_m1 (by omega) e.symm⟩ (fun w a w' hP ha hw hw' e1 e2 e3 => by
        have e1 : bk w = nI a := e1
        have e3 : wh w' = nI a := e3
        refine ⟨fun P h0 hs => hs w a w' (hP.1 P h0 hs) ha hw hw' e1 e2 e3, fun hx => ?_⟩
        obtain ⟨s, hs, hZ, e⟩ := h2 w' hw' hx
        rw [e3, nI_eq (by omega) (by omega)] at e
        subst e
        obtain ⟨-, hSw⟩ := CHm.in hchg hP.1
        obtain ⟨g1, g2, g3, g4⟩ := hB.2.2.2.1 w hw hSw
        have g30 := hB.1 _ g2
        rw [e1, nI_eq (by omega) (by omega)] at g1
        rw [← g1] at g3
        exact hP.2 (h1 a w ha hw hZ g3 g4))
      exact this.2 hX
  -- the way from the inner loop to there
  have fnd : ∀ (S : Nat → Prop) (fp qt : Nat → Nat) (q d : Nat) (bk wa : Nat → Int32) (se fi ma a x : Int32), BG sk fr wh bk t S fp qt q → d < 16 → S d → wh d = -1 → OK 46 [(0, .inr 30), (1, .inl (nI t)), (2, .inl fr), (3, .inl se), (4, .inl fi), (5, .inl ma), (6, .inl (nI d)), (7, .inl a), (8, .inl x)] [] (S3 σ wh bk wa) := by
    intro S fp qt q d bk wa se fi ma a x hB hd16 hS hdf
    have key := at143 S fp qt q d bk wa se fi ma hB hd16 hS hdf
    have hne : ¬ nI d = -1 := nI_m1 (by omega)
    refine hC.go (fun q => if q = 143 then some 7 else none) 60 ?_
    exact ⟨fun _ => ⟨fun _ => key, fun _ => ⟨fun _ => key, fun q => absurd hne q⟩⟩, fun _ => ⟨fun _ => ⟨fun _ => key, fun _ => ⟨fun _ => key, fun q => absurd hne q⟩⟩, fun q => absurd hne q⟩⟩
  have outer : ∀ (n p q : Nat) (S : Nat → Prop) (fp qt : Nat → Nat) (bk wa : Nat → Int32) (se : Int32), p + n = 31 → p ≤ q → BG sk fr wh bk t S fp qt q → (∀ i, i < q → wa i = nI (qt i)) → (∀ w, w < 16 → (S w ↔ bt se w = true)) → (∀ i, i < p → ∀ w, w < 16 → bt (sk (qt i)) w = true → bt fr w = true → S w) → (∀ w, w < 16 → S w → ∃ i, i < q ∧ wh w = nI (qt i)) → OK 18 [(0, .inr 30), (1, .inl (nI t)), (2, .inl fr), (3, .inl se), (4, .inl (nI p)), (5, .inl (nI q)), (6, .inl (-1))] [] (S3 σ wh bk wa) := by
    intro n
    induction n with
    | zero =>
      intro p q S fp qt bk wa se hp hpq hB
      exfalso
      have := hB.q30
      omega
    | succ n ih =>
      intro p q S fp qt bk wa se hp hpq hB hwa hse hpr hho
      have hq30 := hB.q30
      have hB0 := hB
      by_cases hlt : p < q
      · have ep : (nI p).toNatClampNeg = p := nI_clamp (by omega)
        have inner : ∀ (g w q : Nat) (S : Nat → Prop) (fp qt' : Nat → Nat) (bk wa : Nat → Int32) (se : Int32), w + g = 16 → p < q → qt' p = qt p → BG sk fr wh bk t S fp qt' q → (∀ i, i < q → wa i = nI (qt' i)) → (∀ w, w < 16 → (S w ↔ bt se w = true)) → (∀ i, i < p → ∀ w, w < 16 → bt (sk (qt' i)) w = true → bt fr w = true → S w) → (∀ v, v < w → bt (sk (qt p)) v = true → bt fr v = true → S v) → (∀ w, w < 16 → S w → ∃ i, i < q ∧ wh w = nI (qt' i)) → OK 46 [(0, .inr 30), (1, .inl (nI t)), (2, .inl fr), (3, .inl se), (4, .inl (nI (p + 1))), (5, .inl (nI q)), (6, .inl (-1)), (7, .inl (nI (qt p))), (8, .inl (nI w))] [] (S3 σ wh bk wa) := by
          intro g
          induction g with
          | zero =>
            intro w q S fp qt' bk wa se hw hpq' hqp hB hwa hse hpr hpw hho
            have hw : w = 16 := by omega
            subst hw
            have key := ih (p + 1) q S fp qt' bk wa se (by omega) (by omega) hB hwa hse (fun i hi v hv h1 h2 => by
              by_cases c : i = p
              · rw [c, hqp] at h1; exact hpw v hv h1 h2
              · exact hpr i (by omega) v hv h1 h2) hho
            refine hC.go (fun q => if q = 18 then some 7 else none) 60 ?_
            exact ⟨fun _ => key, fun h => absurd (show nI 16 ≤ nI 16 by decide) h⟩
          | succ g ihg =>
            intro w q S fp qt' bk wa se hw hpq' hqp hB hwa hse hpr hpw hho
            have hq30 := hB.q30
            have ew : (nI w).toNatClampNeg = w := nI_clamp (by omega)
            have hiw : vp_in (nI w) 16 := vp_in_nI (by omega) (by omega)
            obtain ⟨b1, b2, b3, b4, b5, b6, b7⟩ := hB
            have ha30 : qt p < 30 := by rw [← hqp]; exact b1 p hpq'
            have ea : (nI (qt p)).toNatClampNeg = qt p := nI_clamp (by omega)
            have bit : (((σ 36 (nI (qt p)).toNatClampNeg &&& fr &&& (se ^^^ (-1))) >>> (nI w &&& 31)) &&& 1) = if (bt (sk (qt p)) w = true ∧ bt fr w = true ∧ ¬ bt se w = true) then 1 else 0 := by
              rw [b_get (by omega), ea, b_and, b_and, b_not _ (by omega), ← hsk]
              cases bt (sk (qt p)) w <;> cases bt fr w <;> cases bt se w <;> simp
            refine hC.go (fun q => if q = 46 then some 9 else none) 60 ?_
            refine ⟨fun h => ?_, fun _ => ⟨fun h => absurd rfl h, fun _ => ⟨30, rfl, vp_in_nI ha30 (by omega), fun h => ?_, fun h => ⟨by decide, ?_⟩⟩⟩⟩
            · exfalso
              have h : nI 16 ≤ nI w := h
              rw [nI_leI (by omega) (by omega)] at h
              omega
            · have h : ¬ (((σ 36 (nI (qt p)).toNatClampNeg &&& fr &&& (se ^^^ (-1))) >>> (nI w &&& 31)) &&& 1) = 0 := h
              rw [bit] at h
              have hyes : bt (sk (qt p)) w = true ∧ bt fr w = true ∧ ¬ S w := by
                rw [hse w (by omega)]
                apply Classical.byContradiction
                intro c
                rw [if_neg c] at h
                exact h rfl
              obtain ⟨h1, h2, h3⟩ := hyes
              obtain ⟨se', hse'⟩ : ∃ se', se' = se ||| (1 : Int32) <<< (nI w &&& 31) := ⟨_, rfl⟩
              obtain ⟨S', hS'⟩ : ∃ S' : Nat → Prop, S' = fun v => S v ∨ v = w := ⟨_, rfl⟩
              obtain ⟨fp', hfp'⟩ : ∃ fp' : Nat → Nat, fp' = fun v => if v = w then p else fp v := ⟨_, rfl⟩
              obtain ⟨bk', hbk'⟩ : ∃ bk', bk' = upd bk w (nI (qt p)) := ⟨_, rfl⟩
              have hse2 : ∀ v, v < 16 → (S' v ↔ bt se' v = true) := fun v hv => by
                rw [hS', hse', b_or, b_bit (by omega) (by omega)]
                show (S v ∨ v = w) ↔ _
                rw [hse v hv]
                cases bt se v <;> simp
              have hfw : fp' w = p := by rw [hfp']; simp
              have hfo : ∀ v, ¬ v = w → fp' v = fp v := fun v hv => by rw [hfp']; simp [hv]
              have hkw : bk' w = nI (qt p) := by rw [hbk']; unfold upd; rw [if_pos rfl]
              have hko : ∀ v, ¬ v = w → bk' v = bk v := fun v hv => by rw [hbk']; unfold upd; rw [if_neg hv]
              have est : dk_up (S3 σ wh bk wa) 47 (upd bk (nI w).toNatClampNeg (nI (qt p))) = S3 σ wh bk' wa := by rw [S3_47, ew, hbk']
              have hBq : ∀ (q2 : Nat) (qt2 : Nat → Nat), q ≤ q2 → (∀ i, i < q → qt2 i = qt' i) → (∀ i, i < q2 → qt2 i < 30) → (∀ i j, i < q2 → j < q2 → qt2 i = qt2 j → i = j) → (∀ i, q ≤ i → i < q2 → ∃ w, w < 16 ∧ wh w = nI (qt2 i) ∧ S' w ∧ fp' w < i) → BG sk fr wh bk' t S' fp' qt2 q2 := by
                intro q2 qt2 hq2 heq k1 k2 k3
                refine ⟨k1, k2, ⟨by omega, by rw [heq 0 (by omega)]; exact b3.2⟩, fun v hv hSv => ?_, fun i hi hi2 => ?_, b6, b7⟩
                · rw [hS'] at hSv
                  by_cases c : v = w
                  · rw [c, hkw, hfw, heq p hpq', hqp]
                    exact ⟨rfl, by omega, h1, h2⟩
                  · have hSv := hSv.resolve_right c
                    obtain ⟨g1, g2, g3, g4⟩ := b4 v hv hSv
                    rw [hko v c, hfo v c, heq _ g2]
                    exact ⟨g1, by omega, g3, g4⟩
                · by_cases c : i < q
                  · obtain ⟨v, hv, g1, g2, g3⟩ := b5 i hi c
                    have hvw : ¬ v = w := fun c2 => by rw [c2] at g2; exact h3 g2
                    refine ⟨v, hv, by rw [heq i c]; exact g1, by rw [hS']; exact Or.inl g2, by rw [hfo v hvw]; exact g3⟩
                  · exact k3 i (by omega) hi2
              have e46 : ∀ τ : dk_S, τ = S3 σ wh bk' wa → τ 46 = wh := fun τ h => by rw [h]; rfl
              refine ⟨by decide, 16, rfl, hiw, 16, rfl, hiw, fun h4 => ⟨16, rfl, hiw, 40, rfl, vp_in_nI (by omega) (by omega), by decide, by decide, ?_⟩, fun h4 => ⟨by decide, by decide, ?_⟩⟩
              · have h4 : ¬ wh (nI w).toNatClampNeg = -1 := h4
                rw [ew] at h4
                obtain ⟨s, hs, hs1⟩ : ∃ s, s < 30 ∧ wh w = nI s := by
                  rcases b6.1 w (by omega) with c | ⟨s, hs, c, -⟩
                  · exact absurd c h4
                  · exact ⟨s, hs, c⟩
                have hnew : ∀ i, i < q → ¬ qt' i = s := fun i hi e => by
                  rcases Nat.eq_zero_or_pos i with c | c
                  · rw [c, b3.2] at e
                    rw [← e] at hs1
                    exact b7 w (by omega) hs1
                  · obtain ⟨v, hv, g1, g2, -⟩ := b5 i c hi
                    rw [e, ← hs1] at g1
                    have := b6.2 v w hv (by omega) g1 (by rw [g1]; exact h4)
                    rw [this] at g2
                    exact h3 g2
                obtain ⟨qt2, hqt2⟩ : ∃ qt2 : Nat → Nat, qt2 = fun i => if i = q then s else qt' i := ⟨_, rfl⟩
                have hqn : qt2 q = s := by rw [hqt2]; simp
                have hqo : ∀ i, i < q → qt2 i = qt' i := fun i hi => by rw [hqt2]; simp [show ¬ i = q by omega]
                have hB2 := hBq (q + 1) qt2 (by omega) hqo (fun i hi => by
                  by_cases c : i = q
                  · rw [c, hqn]; exact hs
                  · rw [hqo i (by omega)]; exact b1 i (by omega)) (fun i j hi hj e => by
                  by_cases c : i = q <;> by_cases c' : j = q
                  · omega
                  · rw [c, hqn, hqo j (by omega)] at e; exact absurd e.symm (hnew j (by omega))
                  · rw [c', hqn, hqo i (by omega)] at e; exact absurd e (hnew i (by omega))
                  · rw [hqo i (by omega), hqo j (by omega)] at e; exact b2 i j (by omega) (by omega) e) (fun i hi hi2 => by
                  have : i = q := by omega
                  subst this
                  exact ⟨w, by omega, by rw [hqn]; exact hs1, by rw [hS']; exact Or.inr rfl, by rw [hfw]; omega⟩)
                have key := ihg (w + 1) (q + 1) S' fp' qt2 bk' (upd wa q (nI s)) se' (by omega) (by omega) (by rw [hqo p hpq']; exact hqp) hB2 (fun i hi => by
                  unfold upd
                  by_cases c : i = q
                  · rw [if_pos c, c, hqn]
                  · rw [if_neg c, hqo i (by omega)]; exact hwa i (by omega)) hse2 (fun i hi v hv k1 k2 => by
                  rw [hqo i (by omega)] at k1
                  rw [hS']; exact Or.inl (hpr i hi v hv k1 k2)) (fun v hv k1 k2 => by
                  rw [hS']
                  by_cases c : v = w
                  · exact Or.inr c
                  · exact Or.inl (hpw v (by omega) k1 k2)) (fun v hv hSv => by
                  rw [hS'] at hSv
                  by_cases c : v = w
                  · exact ⟨q, by omega, by rw [c, hqn]; exact hs1⟩
                  · obtain ⟨i, hi, e⟩ := hho v hv (hSv.resolve_right c)
                    exact ⟨i, by omega, by rw [hqo i hi]; exact e⟩)
                have est2 : dk_up (dk_up (S3 σ wh bk wa) 47 (upd bk (nI w).toNatClampNeg (nI (qt p)))) 48 (upd wa (nI q).toNatClampNeg (wh (nI w).toNatClampNeg)) = S3 σ wh bk' (upd wa q (nI s)) := by
                  rw [est, S3_48, ew, hs1, nI_clamp (by omega)]
                rw [← nI_1 w, ← nI_1 q, ← est2, hse'] at key
                exact key
              · have h4 : ¬ ¬ wh (nI w).toNatClampNeg = -1 := h4
                rw [ew] at h4
                have h4 := Classical.not_not.mp h4
                have hB2 := hBq q qt' (Nat.le_refl _) (fun _ _ => rfl) b1 b2 (fun i hi hi2 => by omega)
                have key := fnd S' fp' qt' q w bk' wa se' (nI (p + 1)) (nI q) (nI (qt p)) (nI w + 1) hB2 (by omega) (by rw [hS']; exact Or.inr rfl) h4
                rw [← est, hse'] at key
                exact key
            · have h : ¬ ¬ (((σ 36 (nI (qt p)).toNatClampNeg &&& fr &&& (se ^^^ (-1))) >>> (nI w &&& 31)) &&& 1) = 0 := h
              rw [bit] at h
              have hno : ¬ (bt (sk (qt p)) w = true ∧ bt fr w = true ∧ ¬ S w) := fun c => by
                rw [hse w (by omega)] at c
                rw [if_pos c] at h
                exact h i32_ne10
              have key := ihg (w + 1) q S fp qt' bk wa se (by omega) hpq' hqp ⟨b1, b2, b3, b4, b5, b6, b7⟩ hwa hse hpr (fun v hv k1 k2 => by
                by_cases c : v = w
                · subst c
                  apply Classical.byContradiction
                  intro c2
                  exact hno ⟨k1, k2, c2⟩
                · exact hpw v (by omega) k1 k2) hho
              rw [← nI_1 w] at key
              exact key
        refine hC.go (fun q => if q = 46 then some 9 else none) 60 ?_
        refine ⟨fun h => ?_, fun _ => ⟨fun h => absurd rfl h, fun _ => ⟨40, rfl, vp_in_nI (by omega) (by omega), by decide, by decide, by decide, ?_⟩⟩⟩
        · exfalso
          have h : nI q ≤ nI p := h
          rw [nI_leI (by omega) (by omega)] at h
          omega
        · have key := inner 16 0 q S fp qt bk wa se (by omega) hlt rfl hB0 hwa hse hpr (fun v hv => by omega) hho
          have ewa : S3 σ wh bk wa 48 (nI p).toNatClampNeg = nI (qt p) := by rw [ep]; exact hwa p hlt
          rw [← ewa, ← nI_1 p] at key
          exact key
      · have hpq2 : p = q := by omega
        subst hpq2
        have key : OK 143 [(0, .inr 30), (1, .inl (nI t)), (2, .inl fr), (3, .inl se), (4, .inl (nI p)), (5, .inl (nI p)), (6, .inl (-1))] [] (S3 σ wh bk wa) := by
          refine hC.go (fun _ => none) 60 ?_
          refine ⟨fun q => absurd rfl q, fun _ => ⟨Or.inl rfl, post 0 wh bk wa hWK (Or.inr ⟨rfl, rfl, fun s => ∃ i, i < p ∧ qt i = s, S, ⟨0, hB.2.2.1.1, hB.2.2.1.2⟩, fun s hs => ?_, fun s w hs hw hR h1 h2 => ?_, fun w hw hS => ?_⟩)⟩⟩
          · obtain ⟨i, hi, rfl⟩ := hs
            rcases Nat.eq_zero_or_pos i with c | c
            · left; rw [c]; exact hB.2.2.1.2
            · right
              obtain ⟨v, hv, g1, -, -⟩ := hB.2.2.2.2.1 i c hi
              exact ⟨v, hv, g1⟩
          · obtain ⟨i, hi, rfl⟩ := hR
            exact hpr i hi w hw h1 h2
          · obtain ⟨i, hi, e⟩ := hho w hw hS
            exact ⟨qt i, hB.1 i hi, ⟨i, hi, rfl⟩, e⟩
        refine hC.go (fun q => if q = 143 then some 7 else none) 60 ?_
        exact ⟨fun _ => key, fun h => absurd (Int32.le_refl _) h⟩
  refine hC.go (fun q => if q = 18 then some 7 else none) 60 ?_
  refine ⟨by decide, by decide, by decide, 40, rfl, vp_in_nI (n := 0) (by omega) (by omega), by decide, ?_⟩
  have key := outer 31 0 1 (fun _ => False) (fun _ => 0) (fun _ => t) (σ 47) (upd (σ 48) 0 (nI t)) 0 (by omega) (by omega) ⟨fun _ _ => ht, fun i j hi hj _ => by omega, ⟨by omega, rfl⟩, fun w _ h => h.elim, fun i hi hi2 => by omega, hWK, nort⟩ (fun i hi => by
    have : i = 0 := by omega
    subst this
    rfl) (fun w hw => by rw [b_0]; simp) (fun i hi => by omega) (fun w _ h => h.elim)
  have est : S3 σ wh (σ 47) (upd (σ 48) 0 (nI t)) = dk_up σ 48 (upd (σ 48) 0 (nI t)) := by
    have : dk_up (S3 σ (σ 46) (σ 47) (σ 48)) 48 (upd (σ 48) 0 (nI t)) = S3 σ (σ 46) (σ 47) (upd (σ 48) 0 (nI t)) := S3_48
    rw [S3_id] at this
    rw [hwh]
    exact this.symm
  rw [est] at key
  exact key
