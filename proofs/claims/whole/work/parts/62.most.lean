/-! the reference's most -/
/-- each failed search's tasks and workers: no way leads out of them -/
def CT (sk : Nat → Int32) (fr : Int32) (wh : Nat → Int32) (U Z X : Nat → Prop) : Prop := (∀ s, s < 30 → U s → ¬ Z s → hd wh s) ∧ (∀ s w, s < 30 → w < 16 → Z s → bt (sk s) w = true → bt fr w = true → X w) ∧ (∀ w, w < 16 → X w → ∃ s, s < 30 ∧ Z s ∧ wh w = nI s) ∧ ∀ s, Z s → U s
theorem WK.nu {sk : Nat → Int32} {fr : Int32} {wh : Nat → Int32} {U Z X : Nat → Prop} (hW : WK sk fr wh) (hU : ∀ s, s < 30 → hd wh s → U s) (hC : CT sk fr wh U Z X) : nu (adjS sk) U (inW fr) (cp (hd wh) 30) := by
  have hch : ∀ s, ∃ w, (hd wh s → w < 16 ∧ wh w = nI s) ∧ (¬ hd wh s → w = 16) := fun s => by
    by_cases c : hd wh s
    · obtain ⟨w, hw, e⟩ := c
      exact ⟨w, fun _ => ⟨hw, e⟩, fun q => absurd ⟨w, hw, e⟩ q⟩
    · exact ⟨16, fun q => absurd q c, fun _ => rfl⟩
  obtain ⟨M, hM⟩ := Classical.axiomOfChoice hch
  have hlt : ∀ s, M s < 16 ↔ hd wh s := fun s => by
    constructor
    · intro h
      apply Classical.byContradiction
      intro c
      have := (hM s).2 c
      omega
    · intro h; exact ((hM s).1 h).1
  have hMw : ∀ s, M s < 16 → wh (M s) = nI s := fun s h => ((hM s).1 ((hlt s).mp h)).2
  have hinj : ∀ t t', t < 30 → t' < 30 → M t < 16 → M t = M t' → t = t' := fun t t' ht ht' h e => by
    have h1 := hMw t h
    have h2 := hMw t' (by omega)
    rw [e, h2, nI_eq (by omega) (by omega)] at h1
    exact h1.symm
  refine ⟨⟨M, ⟨fun s hs h => ?_, hinj⟩, cp_congr (fun s _ => hlt s)⟩, fun N hN => ?_⟩
  · have h1 := hMw s h
    rcases hW.1 (M s) h with c | ⟨s', hs', c1, c2, c3⟩
    · rw [h1] at c; exact absurd c (nI_m1 (by omega))
    · rw [h1, nI_eq (by omega) (by omega)] at c1
      subst c1
      exact ⟨hU s hs ((hlt s).mp h), c3, c2⟩
  · have h1 := bfs_fail (Z := Z) (X := X) (M := M) hinj (fun s hs hu hz => (hlt s).mpr (hC.1 s hs hu hz)) (fun s hs hu hz w hw hf ha => hC.2.1 s w hs hw hz ha hf) (fun w hw hx => by
      obtain ⟨s, hs, hz, e⟩ := hC.2.2.1 w hw hx
      refine ⟨s, hs, hC.2.2.2 s hz, hz, ?_⟩
      have h2 := (hlt s).mpr ⟨w, hw, e⟩
      have h3 := hMw s h2
      exact hW.2 (M s) w h2 hw (by rw [h3, e]) (by rw [h3]; exact nI_m1 (by omega))) hN
    have h2 : cp (fun t => U t ∧ M t < 16) 30 ≤ cp (hd wh) 30 := cp_mono (fun s _ q => (hlt s).mp q.2)
    omega
theorem WK.c16 {sk : Nat → Int32} {fr : Int32} {wh : Nat → Int32} (hW : WK sk fr wh) : cp (hd wh) 30 ≤ 16 := by
  have h2 : ∀ n, cp (fun _ => True) n = n := by
    intro n
    induction n with
    | zero => rfl
    | succ n ih => rw [cp_succ_pos trivial, ih]
  have hch : ∀ s, ∃ w, hd wh s → w < 16 ∧ wh w = nI s := fun s => by
    by_cases c : hd wh s
    · obtain ⟨w, hw, e⟩ := c
      exact ⟨w, fun _ => ⟨hw, e⟩⟩
    · exact ⟨0, fun q => absurd q c⟩
  obtain ⟨M, hM⟩ := Classical.axiomOfChoice hch
  have : cp (hd wh) 30 ≤ cp (fun _ => True) 16 := cp_inj (f := M) (fun s _ q => ⟨(hM s q).1, trivial⟩) (fun s s' hs hs' q q' e => by
    have h1 := (hM s q).2
    have h3 := (hM s' q').2
    rw [e, h3, nI_eq (by omega) (by omega)] at h1
    exact h1.symm)
  rw [h2] at this
  exact this
abbrev sp_most : dk_M := dk_sp 3 true (fun x : Int32 × Int32 => [.inr 30, .inl x.1, .inl x.2]) (fun x σ => RN σ ∧ ∀ i, i < 32 → bt x.1 i = true → i < nC σ)
  (fun x σ r σ' => ∃ a b c k, σ' = S3 σ a b c ∧ r = nI k ∧ k ≤ 16 ∧ nu (adjS (σ 36)) (ruP x.1) (inW x.2) k)
set_option maxRecDepth 100000 in
set_option maxHeartbeats 4000000 in
theorem q_most : dk_pure (kX7_most, fX7, [(169, sp_grows)], [], nX7, 5, false) sp_most := by
  refine dk_sp_pure (fun x x' e => by obtain ⟨a, b⟩ := x; obtain ⟨a', b'⟩ := x'; cases e; rfl) (fun _ => rfl) ?_
  rintro OK ⟨so, fr⟩ σ ⟨hR, hso⟩ hC
  have hso : ∀ i, i < 32 → bt so i = true → i < nC σ := hso
  have hN := hR.1
  have hn := hR.2.1
  have hn30 := hN.n30
  obtain ⟨sk, hsk⟩ : ∃ sk, sk = σ 36 := ⟨_, rfl⟩
  have loop : ∀ (d t : Nat) (wh bk wa : Nat → Int32) (Z X : Nat → Prop), t + d = nC σ → WK sk fr wh → (∀ s, s < 30 → hd wh s → s < t ∧ bt so s = true) → CT sk fr wh (fun s => s < t ∧ bt so s = true) Z X → OK 26 [(0, .inr 30), (1, .inl so), (2, .inl fr), (3, .inl (nI (cp (hd wh) 30))), (4, .inl (nI t))] [] (S3 σ wh bk wa) := by
    intro d
    induction d with
    | zero =>
      intro t wh bk wa Z X ht hW hU hCT
      have ht : t = nC σ := by omega
      subst ht
      refine hC.go (fun _ => none) 60 ?_
      refine ⟨fun _ => ⟨wh, bk, wa, cp (hd wh) 30, rfl, rfl, hW.c16, ?_⟩, fun h => ?_⟩
      · show nu (adjS (σ 36)) (ruP so) (inW fr) (cp (hd wh) 30)
        rw [← hsk]
        obtain ⟨⟨M, h1, h2⟩, h3⟩ := WK.nu hW hU hCT
        refine ⟨⟨M, h1.mono (fun s _ q => q.2) (fun _ _ q => q), h2⟩, fun N hN => h3 N (hN.mono (fun s hs q => ⟨hso s (by omega) q, q⟩) (fun _ _ q => q))⟩
      · exfalso
        apply h
        show σ 30 0 ≤ nI (nC σ)
        rw [hn]
        exact Int32.le_refl _
    | succ d ih =>
      intro t wh bk wa Z X ht hW hU hCT
      have et : (nI t).toNatClampNeg = t := nI_clamp (by omega)
      have h16 := hW.c16
      have bit : ((so >>> (nI t &&& 31)) &&& 1) = if bt so t = true then 1 else 0 := b_get (by omega) so
      have skip : ¬ bt so t = true → OK 26 [(0, .inr 30), (1, .inl so), (2, .inl fr), (3, .inl (nI (cp (hd wh) 30))), (4, .inl (nI t + 1))] [] (S3 σ wh bk wa) := by
        intro hno
        rw [nI_1]
        refine ih (t + 1) wh bk wa Z X (by omega) hW (fun s hs q => ?_) ⟨fun s hs hu hz => ?_, hCT.2.1, hCT.2.2.1, fun s hz => ?_⟩
        · have := hU s hs q; exact ⟨by omega, this.2⟩
        · by_cases c : s = t
          · rw [c] at hu; exact absurd hu.2 hno
          · exact hCT.1 s hs ⟨by have := hu.1; omega, hu.2⟩ hz
        · have := hCT.2.2.2 s hz; exact ⟨by omega, this.2⟩
      refine hC.go (fun q => if q = 26 then some 5 else none) 60 ?_
      refine ⟨fun h => ?_, fun _ => ⟨fun h => ⟨by decide, skip ?_⟩, fun h => ?_⟩⟩
      · exfalso
        have h : σ 30 0 ≤ nI t := h
        rw [hn, nI_leI (by omega) (by omega)] at h
        omega
      · have h : ¬ ((so >>> (nI t &&& 31)) &&& 1) = 1 := h
        rw [bit] at h
        intro q
        rw [if_pos q] at h
        exact h rfl
      · have h : ¬ ¬ ((so >>> (nI t &&& 31)) &&& 1) = 1 := h
        rw [bit] at h
        have hbt : bt so t = true := by
          apply Classical.byContradiction
          intro q
          rw [if_neg q] at h
          exact h (fun c => i32_ne10 c.symm)
        have hnt : ¬ hd wh t := fun q => by have := hU t (by omega) q; omega
        have hZt : ¬ Z t := fun q => by have := hCT.2.2.2 t q; omega
        have hpre : ∃ t', t' < 30 ∧ nI t = nI t' ∧ WK (S3 σ wh bk wa 36) fr (S3 σ wh bk wa 46) ∧ ¬ hd (S3 σ wh bk wa 46) t' := ⟨t, by omega, rfl, by show WK (σ 36) fr wh; rw [← hsk]; exact hW, hnt⟩
        refine dk_cs (nI t, fr) rfl rfl rfl hpre (fun r σ1 hq1 => ?_)
        obtain ⟨wh', bk', wa', hσ1, hW', hcase⟩ := hq1 t (by omega) rfl
        have hW' : WK (σ 36) fr wh' := hW'
        rw [← hsk] at hW'
        rw [hσ1, S3_S3]
        rcases hcase with ⟨hr, hhd, hcert⟩ | ⟨hr, hwh, R, Y, r1, r2, r3, r4⟩
        · subst hr
          have hhd : ∀ s, s < 30 → (hd wh' s ↔ hd wh s ∨ s = t) := hhd
          refine ⟨fun q => absurd q i32_ne10, fun _ => ⟨by decide, by decide, ?_⟩⟩
          have hcnt : cp (hd wh') 30 = cp (hd wh) 30 + 1 := by
            have r := cp_remove (Q := hd wh') (m := 30) (show t < 30 by omega) ((hhd t (by omega)).mpr (Or.inr rfl))
            have r2 : cp (fun s => hd wh' s ∧ ¬ s = t) 30 = cp (hd wh) 30 := cp_congr (fun s hs => by
              rw [hhd s hs]
              constructor
              · rintro ⟨a, b⟩; exact a.resolve_right b
              · intro a; exact ⟨Or.inl a, fun c => by rw [c] at a; exact hnt a⟩)
            omega
          have hX : ∀ w, w < 16 → X w → wh' w = wh w := hcert Z X hZt (by
            intro s w hs hw hz h1 h2
            have h1 : bt (σ 36 s) w = true := h1
            rw [← hsk] at h1
            exact hCT.2.1 s w hs hw hz h1 h2) hCT.2.2.1
          have key := ih (t + 1) wh' bk' wa' Z X (by omega) hW' (fun s hs q => ?_) ⟨fun s hs hu hz => ?_, hCT.2.1, fun w hw hx => ?_, fun s hz => ?_⟩
          · rw [hcnt, ← nI_1, ← nI_1 t] at key
            exact key
          · rcases (hhd s hs).mp q with q | q
            · have := hU s hs q; exact ⟨by omega, this.2⟩
            · rw [q]; exact ⟨by omega, hbt⟩
          · rw [hhd s hs]
            by_cases c : s = t
            · exact Or.inr c
            · exact Or.inl (hCT.1 s hs ⟨by have := hu.1; omega, hu.2⟩ hz)
          · obtain ⟨s, hs, h1, h2⟩ := hCT.2.2.1 w hw hx
            exact ⟨s, hs, h1, by rw [hX w hw hx]; exact h2⟩
          · have := hCT.2.2.2 s hz; exact ⟨by omega, this.2⟩
        · subst hr
          have hwh : wh' = wh := hwh
          subst hwh
          have r2 : ∀ s, R s → s = t ∨ hd wh' s := r2
          have r4 : ∀ w, w < 16 → Y w → ∃ s, s < 30 ∧ R s ∧ wh' w = nI s := r4
          refine ⟨fun _ => ⟨by decide, ?_⟩, fun q => absurd rfl q⟩
          have hR30 : ∀ s, R s → s < 30 → s < t + 1 ∧ bt so s = true := fun s q hs => by
            rcases r2 s q with c | c
            · rw [c]; exact ⟨by omega, hbt⟩
            · have := hU s hs c; exact ⟨by omega, this.2⟩
          have key := ih (t + 1) wh' bk' wa' (fun s => s < 30 ∧ (Z s ∨ R s)) (fun w => X w ∨ Y w) (by omega) hW (fun s hs q => ?_) ⟨fun s hs hu hz => ?_, fun s w hs hw hz h1 h2 => ?_, fun w hw hx => ?_, fun s hz => ?_⟩
          · rw [← nI_1 t] at key
            exact key
          · have := hU s hs q; exact ⟨by omega, this.2⟩
          · by_cases c : s = t
            · exact absurd ⟨hs, Or.inr (by rw [c]; exact r1)⟩ hz
            · exact hCT.1 s hs ⟨by have := hu.1; omega, hu.2⟩ (fun q => hz ⟨hs, Or.inl q⟩)
          · rcases hz.2 with q | q
            · exact Or.inl (hCT.2.1 s w hs hw q h1 h2)
            · exact Or.inr (r3 s w hs hw q (by show bt (σ 36 s) w = true; rw [← hsk]; exact h1) h2)
          · rcases hx with q | q
            · obtain ⟨s, hs, h1, h2⟩ := hCT.2.2.1 w hw q
              exact ⟨s, hs, ⟨hs, Or.inl h1⟩, h2⟩
            · obtain ⟨s, hs, h1, h2⟩ := r4 w hw q
              exact ⟨s, hs, ⟨hs, Or.inr h1⟩, h2⟩
          · rcases hz.2 with q | q
            · have := hCT.2.2.2 s q; exact ⟨by omega, this.2⟩
            · exact hR30 s q hz.1
  have first : ∀ (d w : Nat) (wh : Nat → Int32), w + d = 16 → (∀ v, v < w → wh v = -1) → OK 2 [(0, .inr 30), (1, .inl so), (2, .inl fr), (3, .inl (nI w))] [] (S3 σ wh (σ 47) (σ 48)) := by
    intro d
    induction d with
    | zero =>
      intro w wh hw hwh
      have hw : w = 16 := by omega
      subst hw
      refine hC.go (fun q => if q = 26 then some 5 else none) 60 ?_
      refine ⟨fun _ => ⟨by decide, by decide, ?_⟩, fun h => absurd (show nI 16 ≤ nI 16 by decide) h⟩
      have hno : ∀ s, s < 30 → ¬ hd wh s := fun s hs ⟨v, hv, e⟩ => by
        rw [hwh v hv] at e
        exact nI_m1 (by omega) e.symm
      have hz : cp (hd wh) 30 = 0 := cp_none (fun s hs q => hno s hs q)
      have key := loop (nC σ) 0 wh (σ 47) (σ 48) (fun _ => False) (fun _ => False) (by omega) ⟨fun v hv => Or.inl (hwh v hv), fun v v' hv hv' e hne => absurd (hwh v hv) hne⟩ (fun s hs q => absurd q (hno s hs)) ⟨fun s hs hu => by have := hu.1; omega, fun s w _ _ hz => hz.elim, fun w _ hx => hx.elim, fun s hz => hz.elim⟩
      rw [hz] at key
      exact key
    | succ d ih =>
      intro w wh hw hwh
      have ew : (nI w).toNatClampNeg = w := nI_clamp (by omega)
      refine hC.go (fun q => if q = 2 then some 4 else none) 60 ?_
      refine ⟨fun h => ?_, fun _ => ⟨16, rfl, vp_in_nI (by omega) (by omega), by decide, ?_⟩⟩
      · exfalso
        have h : nI 16 ≤ nI w := h
        rw [nI_leI (by omega) (by omega)] at h
        omega
      · have key := ih (w + 1) (upd wh w (-1)) (by omega) (fun v hv => by
          unfold upd
          by_cases c : v = w
          · rw [if_pos c]
          · rw [if_neg c]; exact hwh v (by omega))
        have est : dk_up (S3 σ wh (σ 47) (σ 48)) 46 (upd wh (nI w).toNatClampNeg (-1)) = S3 σ (upd wh w (-1)) (σ 47) (σ 48) := by rw [S3_46, ew]
        rw [← nI_1 w, ← est] at key
        exact key
  refine hC.go (fun q => if q = 2 then some 4 else none) 60 ?_
  refine ⟨by decide, ?_⟩
  have key := first 16 0 (σ 46) (by omega) (fun v hv => by omega)
  rw [S3_id] at key
  exact key
