/-! takeLeast, and the end of find: task by task the least worker -/
theorem b_65535 : ∀ i, i < 16 → bt 65535 i = true := by decide +kernel
theorem b_65535' : ∀ i, i < 32 → bt 65535 i = true → i < 16 := by decide +kernel
noncomputable def toM (wt : Nat → Int32) (s : Nat) : Nat := if wt s = -1 then 16 else (wt s).toNatClampNeg
theorem toM_none {wt : Nat → Int32} {s : Nat} (h : wt s = -1) : toM wt s = 16 := by unfold toM; rw [if_pos h]
theorem toM_some {wt : Nat → Int32} {s v : Nat} (hv : v < 16) (h : wt s = nI v) : toM wt s = v := by
  unfold toM
  rw [h, if_neg (nI_m1 (by omega)), nI_clamp (by omega)]
theorem toM_lt {wt tw : Nat → Int32} (h : MI wt tw) {s : Nat} (hs : s < 30) : toM wt s < 16 ↔ ¬ wt s = -1 := by
  constructor
  · intro c c2; rw [toM_none c2] at c; omega
  · intro c
    obtain ⟨v, hv, c3, -⟩ := h.get hs c
    rw [toM_some hv c3]; exact hv
theorem toM_get {wt tw : Nat → Int32} (h : MI wt tw) {s : Nat} (hs : s < 30) (hm : toM wt s < 16) : wt s = nI (toM wt s) := by
  obtain ⟨v, hv, c3, -⟩ := h.get hs ((toM_lt h hs).mp hm)
  rw [toM_some hv c3]; exact c3
theorem toM_inj {wt tw : Nat → Int32} (h : MI wt tw) {s s' : Nat} (hs : s < 30) (hs' : s' < 30) (hm : toM wt s < 16) (e : toM wt s = toM wt s') : s = s' :=
  h.inj hs hs' hm (toM_get h hs hm) (by rw [e]; exact toM_get h hs' (by omega))
theorem toM_isM {ru : Int32} {sk wt tw : Nat → Int32} (h : MI wt tw) (ha : MA ru sk wt) : isM (adjS sk) (fun s => bt ru s = true) (fun _ => True) (toM wt) :=
  ⟨fun s hs hm => ⟨(ha s hs _ hm (toM_get h hs hm)).1, trivial, (ha s hs _ hm (toM_get h hs hm)).2⟩, fun s s' hs hs' hm e => toM_inj h hs hs' hm e⟩
theorem szM_toM {wt tw : Nat → Int32} (h : MI wt tw) : szM (toM wt) = szW wt := cp_congr (fun s hs => toM_lt h hs)
noncomputable def later (t : Nat) (wt : Nat → Int32) (s : Nat) : Nat := if t < s then toM wt s else 16
theorem later_isM {ru : Int32} {sk wt tw : Nat → Int32} {t : Nat} {P : Nat → Prop} (h : MI wt tw) (ha : MA ru sk wt) (hP : ∀ s, s < 30 → t < s → ∀ v, v < 16 → wt s = nI v → P v) : isM (adjS sk) (ltr ru t) P (later t wt) := by
  refine ⟨fun s hs hm => ?_, fun s s' hs hs' hm e => ?_⟩
  · unfold later at hm ⊢
    by_cases c : t < s
    · rw [if_pos c] at hm ⊢
      have g := toM_get h hs hm
      exact ⟨⟨c, (ha s hs _ hm g).1⟩, hP s hs c _ hm g, (ha s hs _ hm g).2⟩
    · rw [if_neg c] at hm; omega
  · unfold later at hm e
    by_cases c : t < s
    · rw [if_pos c] at hm e
      by_cases c' : t < s'
      · rw [if_pos c'] at e
        exact toM_inj h hs hs' hm e
      · rw [if_neg c'] at e; omega
    · rw [if_neg c] at hm; omega
theorem szM_later {wt tw : Nat → Int32} {t : Nat} (h : MI wt tw) : szM (later t wt) = szL wt t := by
  refine cp_congr (fun s hs => ?_)
  unfold later
  by_cases c : t < s
  · rw [if_pos c, toM_lt h hs]; exact ⟨fun q => ⟨c, q⟩, fun q => q.2⟩
  · rw [if_neg c]; exact ⟨fun q => by omega, fun q => absurd q.1 c⟩
theorem cp_pre {P : Nat → Prop} {k : Nat} : ∀ {n : Nat}, k ≤ n → cp (fun s => P s ∧ s < k) n = cp P k := by
  intro n
  induction n with
  | zero => intro h; have : k = 0 := by omega
            subst this; rfl
  | succ n ih =>
    intro h
    by_cases e : k = n + 1
    · subst e
      exact cp_congr (fun i hi => ⟨fun q => q.1, fun q => ⟨q, hi⟩⟩)
    · rw [cp_succ_neg (fun q => by have := q.2; omega)]
      exact ih (by omega)
theorem sz_split (wt : Nat → Int32) {t : Nat} (ht : t < 30) : szW wt = cp (fun s => ¬ wt s = -1) (t + 1) + szL wt t := by
  have e := cp_split (P := fun s => ¬ wt s = -1) (Q := fun s => s < t + 1) 30
  rw [cp_pre (by omega)] at e
  unfold szW szL
  rw [e]
  congr 1
  exact cp_congr (fun s hs => ⟨fun q => ⟨by omega, q.1⟩, fun q => ⟨q.2, by omega⟩⟩)
def avl (wt : Nat → Int32) (t v : Nat) : Prop := ∀ s, s < t → ¬ wt s = nI v
/-- the worker w may be given to t -/
def OKc (ru : Int32) (sk : Nat → Int32) (all : Nat) (wt : Nat → Int32) (t w : Nat) : Prop := bt ru t = true ∧ bt (sk t) w = true ∧ avl wt t w ∧ ∃ N, isM (adjS sk) (ltr ru t) (fun v => avl wt t v ∧ ¬ v = w) N ∧ all ≤ cp (fun s => ¬ wt s = -1) t + 1 + szM N
def GRat (ru : Int32) (sk : Nat → Int32) (all : Nat) (wt : Nat → Int32) (t : Nat) : Prop := (wt t = -1 ∧ ∀ w, w < 16 → ¬ OKc ru sk all wt t w) ∨ ∃ w, w < 16 ∧ wt t = nI w ∧ OKc ru sk all wt t w ∧ ∀ v, v < w → ¬ OKc ru sk all wt t v
theorem OKc.congr {ru : Int32} {sk : Nat → Int32} {all : Nat} {wt wt' : Nat → Int32} {t : Nat} (h : ∀ s, s < t → wt s = wt' s) {w : Nat} (hc : OKc ru sk all wt t w) : OKc ru sk all wt' t w := by
  have ha : ∀ v, avl wt t v ↔ avl wt' t v := fun v => ⟨fun q s hs => by rw [← h s hs]; exact q s hs, fun q s hs => by rw [h s hs]; exact q s hs⟩
  obtain ⟨c1, c2, c3, N, c4, c5⟩ := hc
  refine ⟨c1, c2, (ha w).mp c3, N, c4.mono (fun _ _ q => q) (fun v _ q => ⟨(ha v).mp q.1, q.2⟩), ?_⟩
  rw [cp_congr (Q := fun s => ¬ wt s = -1) (fun s hs => by rw [h s hs])]
  exact c5
theorem GRat.congr {ru : Int32} {sk : Nat → Int32} {all : Nat} {wt wt' : Nat → Int32} {t : Nat} (h : ∀ s, s < t + 1 → wt s = wt' s) (hg : GRat ru sk all wt t) : GRat ru sk all wt' t := by
  have h1 : ∀ s, s < t → wt s = wt' s := fun s hs => h s (by omega)
  have h2 : ∀ s, s < t → wt' s = wt s := fun s hs => (h s (by omega)).symm
  rcases hg with ⟨a, b⟩ | ⟨w, a, b, c, d⟩
  · exact Or.inl ⟨by rw [← h t (by omega)]; exact a, fun w hw q => b w hw (q.congr h2)⟩
  · exact Or.inr ⟨w, a, by rw [← h t (by omega)]; exact b, c.congr h1, fun v hv q => d v hv (q.congr h2)⟩
theorem GR.unique {ru : Int32} {sk : Nat → Int32} {all : Nat} {wt wt' : Nat → Int32} {n : Nat} (h : ∀ t, t < n → GRat ru sk all wt t) (h' : ∀ t, t < n → GRat ru sk all wt' t) : ∀ t, t < n → wt t = wt' t := by
  intro t
  induction t using Nat.strongRecOn with
  | ind t ih =>
    intro ht
    have e : ∀ s, s < t → wt s = wt' s := fun s hs => ih s hs (by omega)
    have e' : ∀ s, s < t → wt' s = wt s := fun s hs => (e s hs).symm
    rcases h t ht with ⟨a, b⟩ | ⟨w, a, b, c, d⟩ <;> rcases h' t ht with ⟨a', b'⟩ | ⟨w', a', b', c', d'⟩
    · rw [a, a']
    · exact absurd (c'.congr e') (b w' a')
    · exact absurd (c.congr e) (b' w a)
    · rcases Nat.lt_trichotomy w w' with q | q | q
      · exact absurd (c.congr e) (d' w q)
      · rw [b, b', q]
      · exact absurd (c'.congr e') (d w' q)
/-- what stands when the tasks below t have their workers; W the others -/
def LI (ru : Int32) (sk : Nat → Int32) (all t : Nat) (W : Int32) (wt tw : Nat → Int32) : Prop := MI wt tw ∧ MA ru sk wt ∧ szW wt = all ∧ (∀ v, v < 16 → (bt W v = true ↔ avl wt t v)) ∧ (∀ s, s < t → bt ru s = true → wt s = -1 → ∀ v, v < 16 → bt W v = true → ¬ bt (sk s) v = true) ∧ ∀ s, s < t → GRat ru sk all wt s
def mxM (ru : Int32) (sk : Nat → Int32) (all : Nat) : Prop := ∀ N, isM (adjS sk) (fun s => bt ru s = true) (fun _ => True) N → szM N ≤ all
abbrev sp_takeLeast : dk_M := dk_sp 3 true (fun x : Int32 × Int32 => [.inr 25, .inl x.1, .inl x.2]) (fun x σ => x.1 = nI x.1.toNatClampNeg ∧ x.1.toNatClampNeg < 30 ∧ bt (σ 25 3) x.1.toNatClampNeg = true ∧ mxM (σ 25 3) (σ 8) (szW (σ 26)) ∧ LI (σ 25 3) (σ 8) (szW (σ 26)) x.1.toNatClampNeg x.2 (σ 26) (σ 27))
  (fun x σ r σ' => ∃ c' wt' tw' qu fi, σ' = SM σ c' wt' tw' qu fi ∧ sc (σ 25) c' ∧ LI (σ 25 3) (σ 8) (szW (σ 26)) (x.1.toNatClampNeg + 1) r wt' tw')
set_option maxRecDepth 100000 in
set_option maxHeartbeats 4000000 in
theorem q_takeLeast : dk_pure (kX3_takeLeast, fX3, [(95, sp_take)], [(55, sp_holdsBit)], nX3, 5, false) sp_takeLeast := by
  refine dk_sp_pure (fun x x' e => by obtain ⟨a, b⟩ := x; obtain ⟨a', b'⟩ := x'; cases e; rfl) (fun _ => rfl) ?_
  rintro OK ⟨xt, W⟩ σ ⟨hxt0, ht1, hrt0, hmx, hLI0⟩ hC
  obtain ⟨t, ht0⟩ : ∃ t, t = xt.toNatClampNeg := ⟨_, rfl⟩
  have hxt : xt = nI xt.toNatClampNeg := hxt0
  have ht : xt.toNatClampNeg < 30 := ht1
  have hrt : bt (σ 25 3) xt.toNatClampNeg = true := hrt0
  have hLI : LI (σ 25 3) (σ 8) (szW (σ 26)) xt.toNatClampNeg W (σ 26) (σ 27) := hLI0
  clear hxt0 ht1 hrt0 hLI0
  rw [← ht0] at hxt ht hrt hLI
  subst hxt
  obtain ⟨hMI, hMA, -, hW, hd2, hGR⟩ := hLI
  have et : (nI t).toNatClampNeg = t := nI_clamp (by omega)
  have hsp := sz_split (σ 26) ht
  obtain ⟨O, hO⟩ : ∃ O : Nat → Int32, O = fun w => W &&& (((1 : Int32) <<< (nI w &&& 31)) ^^^ (-1)) := ⟨_, rfl⟩
  have hOb : ∀ w, w < 16 → ∀ v, v < 16 → (bt (O w) v = true ↔ bt W v = true ∧ ¬ v = w) := by
    intro w hw v hv
    rw [hO]
    show bt (W &&& (((1 : Int32) <<< (nI w &&& 31)) ^^^ (-1))) v = true ↔ _
    rw [b_cut W (by omega) (by omega)]
    simp
  have loop : ∀ (d w : Nat) (c' qu fi : Nat → Int32), w + d = 16 → sc (σ 25) c' → (∀ v, v < w → bt (σ 8 t) v = true → bt W v = true → ¬ σ 26 t = -1 ∧ ∀ N, isM (adjS (σ 8)) (ltr (σ 25 3) t) (inW (O v)) N → szM N + 1 ≤ szL (σ 26) t) → OK 2 [(0, .inr 25), (1, .inl (nI t)), (2, .inl W), (3, .inl (nI w))] [] (SM σ c' (σ 26) (σ 27) qu fi) := by
    intro d
    induction d with
    | zero =>
      intro w c' qu fi hw hsc hF
      have hw : w = 16 := by omega
      subst hw
      refine hC.go (fun q => if q = 2 then some 4 else none) 60 ?_
      refine ⟨fun _ => ⟨c', σ 26, σ 27, qu, fi, rfl, hsc, hMI, hMA, rfl, ?_⟩, fun h => absurd (show nI 16 ≤ nI 16 by decide) h⟩
      show (∀ v, v < 16 → (bt W v = true ↔ avl (σ 26) ((nI t).toNatClampNeg + 1) v)) ∧ (∀ s, s < (nI t).toNatClampNeg + 1 → bt (σ 25 3) s = true → σ 26 s = -1 → ∀ v, v < 16 → bt W v = true → ¬ bt (σ 8 s) v = true) ∧ ∀ s, s < (nI t).toNatClampNeg + 1 → GRat (σ 25 3) (σ 8) (szW (σ 26)) (σ 26) s
      rw [et]
      have hno : σ 26 t = -1 := by
        apply Classical.byContradiction
        intro c
        obtain ⟨v, hv, c1, -⟩ := hMI.get ht c
        have hWv : ∀ s, s < 30 → t ≤ s → ∀ u, u < 16 → σ 26 s = nI u → bt W u = true := fun s hs hts u hu e => (hW u hu).mpr (fun s' hs' e' => by
          have := hMI.inj hs (by omega) hu e e'
          omega)
        obtain ⟨-, c2⟩ := hF v hv (hMA t ht v hv c1).2 (hWv t ht (Nat.le_refl _) v hv c1)
        have c3 := c2 (later t (σ 26)) (later_isM hMI hMA (fun s hs hts u hu e => (hOb v hv u hu).mpr ⟨hWv s hs (by omega) u hu e, fun c => by
          rw [c] at e
          have := hMI.inj hs ht hv e c1
          omega⟩))
        rw [szM_later hMI] at c3
        omega
      have hnos : ∀ v, v < 16 → bt W v = true → ¬ bt (σ 8 t) v = true := fun v hv h1 h2 => (hF v hv h2 h1).1 hno
      have hav : ∀ v, v < 16 → avl (σ 26) t v → avl (σ 26) (t + 1) v := fun v hv q s hs e => by
        by_cases c : s = t
        · rw [c, hno] at e; exact nI_m1 (by omega) e.symm
        · exact q s (by omega) e
      refine ⟨fun v hv => (hW v hv).trans ⟨hav v hv, fun q s hs => q s (by omega)⟩, fun s hs h1 h2 => ?_, fun s hs => ?_⟩
      · by_cases c : s = t
        · subst c; exact hnos
        · exact hd2 s (by omega) h1 h2
      · by_cases c : s = t
        · subst c
          exact Or.inl ⟨hno, fun w hw q => hnos w hw ((hW w hw).mpr q.2.2.1) q.2.1⟩
        · exact hGR s (by omega)
    | succ d ih =>
      intro w c' qu fi hw hsc hF
      have ew : (nI w).toNatClampNeg = w := nI_clamp (by omega)
      have next : ∀ (c'' qu' fi' : Nat → Int32), sc (σ 25) c'' → (bt (σ 8 t) w = true → bt W w = true → ¬ σ 26 t = -1 ∧ ∀ N, isM (adjS (σ 8)) (ltr (σ 25 3) t) (inW (O w)) N → szM N + 1 ≤ szL (σ 26) t) → OK 2 [(0, .inr 25), (1, .inl (nI t)), (2, .inl W), (3, .inl (nI w + 1))] [] (SM σ c'' (σ 26) (σ 27) qu' fi') := by
        intro c'' qu' fi' hsc' h1
        rw [nI_1]
        refine ih (w + 1) c'' qu' fi' (by omega) hsc' (fun v hv => ?_)
        by_cases c : v = w
        · subst c; exact h1
        · exact hF v (by omega)
      refine hC.go (fun q => if q = 2 then some 4 else none) 60 ?_
      refine ⟨fun h => ?_, fun _ => ⟨by decide, 30, rfl, vp_in_nI ht (by omega), ?_⟩⟩
      · exfalso
        have h : nI 16 ≤ nI w := h
        rw [nI_leI (by omega) (by omega)] at h
        omega
      refine dk_cs (σ 8 (nI t).toNatClampNeg &&& W, nI w) rfl rfl rfl ⟨w, by omega, rfl⟩ (fun r1 σ1 hq1 => ?_)
      obtain ⟨hσ1, hr1⟩ := hq1
      rw [hσ1]
      have hr1 : r1 = if bt (σ 8 (nI t).toNatClampNeg &&& W) w = true then 1 else 0 := hr1 w (by omega) rfl
      rw [et, b_and] at hr1
      refine ⟨fun h => ⟨by decide, next c' qu fi hsc (fun q1 q2 => ?_)⟩, fun h => ?_⟩
      · exfalso
        have h : r1 = 0 := h
        rw [hr1, q1, q2] at h
        exact absurd h i32_ne10
      · have h : ¬ r1 = 0 := h
        have hb : bt (σ 8 t) w = true ∧ bt W w = true := by
          apply Classical.byContradiction
          intro q
          rw [hr1, if_neg (fun c => q (by simpa using c))] at h
          exact h rfl
        obtain ⟨hsk, hw1⟩ := hb
        have hWw := (hW w (by omega)).mp hw1
        obtain ⟨τ, hτ⟩ : ∃ τ, τ = SM σ c' (σ 26) (σ 27) qu fi := ⟨_, rfl⟩
        have hc3 : c' 3 = σ 25 3 := hsc 3 (by omega) (by omega)
        have htk : tk τ t w (O w) := by
          rw [hτ]
          refine ⟨hMI, ?_, ht, by omega, ?_, hsk, fun c => ((hOb w (by omega) w (by omega)).mp c).2 rfl, fun s hs v hv e => ⟨fun c => ?_, fun c => ?_⟩, fun s hs h1 h2 v hv h3 => ?_, fun s hs hts v hv e => ?_⟩
          · show MA (c' 3) (σ 8) (σ 26)
            rw [hc3]; exact hMA
          · show bt (c' 3) t = true
            rw [hc3]; exact hrt
          · exact (hW v hv).mp ((hOb w (by omega) v hv).mp c).1 s hs e
          · rw [c] at e; exact hWw s hs e
          · have h1 : bt (c' 3) s = true := h1
            rw [hc3] at h1
            exact hd2 s hs h1 h2 v hv ((hOb w (by omega) v hv).mp h3).1
          · by_cases c : v = w
            · exact Or.inr c
            · exact Or.inl ((hOb w (by omega) v hv).mpr ⟨(hW v hv).mpr (fun s' hs' e' => by
                have := hMI.inj hs (by omega) hv e e'
                omega), c⟩)
        have hOw : W &&& (((1 : Int32) <<< (nI w &&& 31)) ^^^ (-1)) = O w := by rw [hO]
        rw [← hτ]
        refine dk_cs (nI t, nI w, O w) rfl rfl ?_ ⟨t, w, rfl, rfl, htk⟩ (fun r2 σ2 hq2 => ?_)
        · show ([.inr 25, .inl (nI t), .inl (nI w), .inl (W &&& (((1 : Int32) <<< (nI w &&& 31)) ^^^ (-1)))] : List dk_V) = _
          rw [hOw]
        obtain ⟨c2, wt', tw', qu', fi', hσ2, hsc2, hM2, hA2, hcase⟩ := hq2 t w rfl rfl htk
        have hσ2 : σ2 = SM σ c2 wt' tw' qu' fi' := by rw [hσ2, hτ, SM_SM]
        have hsc2 : sc (σ 25) c2 := fun j h1 h2 => by
          rw [hsc2 j h1 h2, hτ]
          exact hsc j h1 h2
        have hA2 : MA (σ 25 3) (σ 8) wt' := by
          have := hA2
          rw [hτ] at this
          have : MA (c' 3) (σ 8) wt' := this
          rw [hc3] at this
          exact this
        rw [hσ2]
        rcases hcase with ⟨hr, k1, k2, k3, k4⟩ | ⟨hr, k1, k2, k3, k4⟩
        · subst hr
          have k1 : ∀ s, s < t → wt' s = σ 26 s := fun s hs => by rw [k1 s hs, hτ]; rfl
          have k2 : wt' t = nI w := k2
          have k3 : ∀ s, s < 30 → t < s → ∀ v, v < 16 → wt' s = nI v → bt (O w) v = true := k3
          have k4 : szW (σ 26) ≤ szW wt' := by rw [hτ] at k4; exact k4
          have k5 : szW wt' = szW (σ 26) := by
            have := hmx _ (toM_isM hM2 hA2)
            rw [szM_toM hM2] at this
            have this : szW wt' ≤ szW (σ 26) := this
            omega
          refine ⟨fun q => absurd q i32_ne10, fun _ => ⟨c2, wt', tw', qu', fi', rfl, hsc2, hM2, hA2, k5, ?_⟩⟩
          show (∀ v, v < 16 → (bt (W &&& (((1 : Int32) <<< (nI w &&& 31)) ^^^ (-1))) v = true ↔ avl wt' ((nI t).toNatClampNeg + 1) v)) ∧ (∀ s, s < (nI t).toNatClampNeg + 1 → bt (σ 25 3) s = true → wt' s = -1 → ∀ v, v < 16 → bt (W &&& (((1 : Int32) <<< (nI w &&& 31)) ^^^ (-1))) v = true → ¬ bt (σ 8 s) v = true) ∧ ∀ s, s < (nI t).toNatClampNeg + 1 → GRat (σ 25 3) (σ 8) (szW (σ 26)) wt' s
          rw [et, hOw]
          refine ⟨fun v hv => ?_, fun s hs h1 h2 v hv h3 => ?_, fun s hs => ?_⟩
          · rw [hOb w (by omega) v hv, hW v hv]
            constructor
            · rintro ⟨a, b⟩ s hs e
              by_cases c : s = t
              · rw [c, k2, nI_eq (by omega) (by omega)] at e
                exact b e.symm
              · rw [k1 s (by omega)] at e
                exact a s (by omega) e
            · intro a
              exact ⟨fun s hs e => a s (by omega) (by rw [k1 s hs]; exact e), fun c => a t (by omega) (by rw [k2, c])⟩
          · by_cases c : s = t
            · rw [c, k2] at h2; exact absurd h2 (nI_m1 (by omega))
            · rw [k1 s (by omega)] at h2
              exact hd2 s (by omega) h1 h2 v hv ((hOb w (by omega) v hv).mp h3).1
          · by_cases c : s = t
            · subst c
              refine Or.inr ⟨w, by omega, k2, ⟨hrt, hsk, fun s' hs' e => ?_, later s wt', later_isM hM2 hA2 (fun s' hs' hts v hv e => ?_), ?_⟩, fun v hv q => ?_⟩
              · rw [k1 s' hs'] at e; exact hWw s' hs' e
              · have c := (hOb w (by omega) v hv).mp (k3 s' hs' hts v hv e)
                exact ⟨fun s2 hs2 e2 => by
                  rw [k1 s2 hs2] at e2
                  exact (hW v hv).mp c.1 s2 hs2 e2, c.2⟩
              · rw [szM_later hM2]
                have := sz_split wt' ht
                rw [cp_succ_pos (by rw [k2]; exact nI_m1 (by omega))] at this
                omega
              · obtain ⟨q1, q2, q3, N, q4, q5⟩ := q
                have q3' : avl (σ 26) s v := fun s' hs' e => q3 s' hs' (by rw [k1 s' hs']; exact e)
                obtain ⟨f1, f2⟩ := hF v hv q2 ((hW v (by omega)).mpr q3')
                have f3 := f2 N (q4.mono (fun _ _ q => q) (fun u hu q => (hOb v (by omega) u hu).mpr ⟨(hW u hu).mpr (fun s' hs' e => q.1 s' hs' (by rw [k1 s' hs']; exact e)), q.2⟩))
                rw [cp_congr (Q := fun s => ¬ σ 26 s = -1) (fun s' hs' => by rw [k1 s' hs'])] at q5
                rw [cp_succ_pos f1] at hsp
                omega
            · exact (hGR s (by omega)).congr (fun s' hs' => (k1 s' (by omega)).symm)
        · subst hr
          have k1 : wt' = σ 26 := by rw [k1, hτ]; rfl
          have k2 : tw' = σ 27 := by rw [k2, hτ]; rfl
          have k3 : ¬ σ 26 t = -1 := by rw [hτ] at k3; exact k3
          have k4 : ∀ N, isM (adjS (σ 8)) (ltr (σ 25 3) t) (inW (O w)) N → szM N + 1 ≤ szL (σ 26) t := by
            rw [hτ] at k4
            have k4 : ∀ N, isM (adjS (σ 8)) (ltr (c' 3) t) (inW (O w)) N → szM N + 1 ≤ szL (σ 26) t := k4
            rw [hc3] at k4
            exact k4
          rw [k1, k2]
          exact ⟨fun _ => ⟨by decide, next c2 qu' fi' hsc2 (fun _ _ => ⟨k3, k4⟩)⟩, fun q => absurd rfl q⟩
  refine hC.go (fun q => if q = 2 then some 4 else none) 60 ?_
  refine ⟨by decide, ?_⟩
  have key := loop 16 0 (σ 25) (σ 28) (σ 29) (by omega) (fun _ _ _ => rfl) (fun v hv => by omega)
  rw [SM_id] at key
  exact key
set_option maxRecDepth 100000 in
set_option maxHeartbeats 4000000 in
theorem l_tLW (OK : Nat → dk_L → List dk_V → dk_S → Prop) {Post : Int32 → dk_S → Prop} (σ : dk_S) (tm ru al : Int32) (hmx : mxM (σ 25 3) (σ 8) (szW (σ 26))) (hMI : MI (σ 26) (σ 27)) (hMA : MA (σ 25 3) (σ 8) (σ 26)) (hC : dk_ok (kX3_find, fX3, [(48, sp_widen), (52, sp_keepCover), (59, sp_takeLeast)], [(41, sp_fill), (55, sp_holdsBit)], nX3, 6, false) Post OK)
    (hend : ∀ c' wt' tw' qu fi : Nat → Int32, sc (σ 25) c' → MI wt' tw' → MA (σ 25 3) (σ 8) wt' → (∀ t, t < 30 → GRat (σ 25 3) (σ 8) (szW (σ 26)) wt' t) → Post al (SM σ c' wt' tw' qu fi)) : OK 63 [(0, .inr 25), (1, .inl tm), (2, .inl ru), (3, .inl al)] [] σ := by
  have loop : ∀ (d t : Nat) (W : Int32) (c' wt tw qu fi : Nat → Int32), t + d = 30 → sc (σ 25) c' → LI (σ 25 3) (σ 8) (szW (σ 26)) t W wt tw → OK 70 [(0, .inr 25), (1, .inl tm), (2, .inl ru), (3, .inl al), (4, .inl W), (5, .inl (nI t))] [] (SM σ c' wt tw qu fi) := by
    intro d
    induction d with
    | zero =>
      intro t W c' wt tw qu fi ht hsc hL
      have ht : t = 30 := by omega
      subst ht
      refine hC.go (fun q => if q = 70 then some 6 else none) 60 ?_
      exact ⟨fun _ => hend c' wt tw qu fi hsc hL.1 hL.2.1 hL.2.2.2.2.2, fun h => absurd (show nI 30 ≤ nI 30 by decide) h⟩
    | succ d ih =>
      intro t W c' wt tw qu fi ht hsc hL
      have et : (nI t).toNatClampNeg = t := nI_clamp (by omega)
      have hc3 : c' 3 = σ 25 3 := hsc 3 (by omega) (by omega)
      refine hC.go (fun q => if q = 70 then some 6 else none) 60 ?_
      refine ⟨fun h => ?_, fun _ => ?_⟩
      · exfalso
        have h : nI 30 ≤ nI t := h
        rw [nI_leI (by omega) (by omega)] at h
        omega
      refine dk_cs (c' 3, nI t) rfl rfl rfl ⟨t, by omega, rfl⟩ (fun r1 σ1 hq1 => ?_)
      obtain ⟨hσ1, hr1⟩ := hq1
      rw [hσ1]
      have hr1 : r1 = if bt (c' 3) t = true then 1 else 0 := hr1 t (by omega) rfl
      rw [hc3] at hr1
      refine ⟨fun h => ⟨by decide, by decide, ?_⟩, fun h => ?_⟩
      · have h : r1 = 0 := h
        have hnr : ¬ bt (σ 25 3) t = true := fun q => by rw [hr1, if_pos q] at h; exact absurd h i32_ne10
        have key := ih (t + 1) W c' wt tw qu fi (by omega) hsc ?_
        · rw [← nI_1 t] at key; exact key
        · obtain ⟨a1, a2, a3, a4, a5, a6⟩ := hL
          have hno : wt t = -1 := by
            apply Classical.byContradiction
            intro c
            obtain ⟨v, hv, c1, -⟩ := a1.get (by omega) c
            exact hnr (a2 t (by omega) v hv c1).1
          refine ⟨a1, a2, a3, fun v hv => (a4 v hv).trans ⟨fun q s hs e => ?_, fun q s hs => q s (by omega)⟩, fun s hs h1 h2 => ?_, fun s hs => ?_⟩
          · by_cases c : s = t
            · rw [c, hno] at e; exact nI_m1 (by omega) e.symm
            · exact q s (by omega) e
          · by_cases c : s = t
            · rw [c] at h1; exact absurd h1 hnr
            · exact a5 s (by omega) h1 h2
          · by_cases c : s = t
            · rw [c]
              exact Or.inl ⟨hno, fun w hw q => hnr q.1⟩
            · exact a6 s (by omega)
      · have h : ¬ r1 = 0 := h
        have hrt : bt (σ 25 3) t = true := by
          apply Classical.byContradiction
          intro q
          rw [hr1, if_neg q] at h
          exact h rfl
        obtain ⟨τ, hτ⟩ : ∃ τ, τ = SM σ c' wt tw qu fi := ⟨_, rfl⟩
        have τ3 : τ 25 3 = σ 25 3 := by rw [hτ]; exact hc3
        have τ8 : τ 8 = σ 8 := by rw [hτ]; rfl
        have τ26 : τ 26 = wt := by rw [hτ]; rfl
        have τ27 : τ 27 = tw := by rw [hτ]; rfl
        have hpre : (nI t) = nI (nI t).toNatClampNeg ∧ (nI t).toNatClampNeg < 30 ∧ bt (τ 25 3) (nI t).toNatClampNeg = true ∧ mxM (τ 25 3) (τ 8) (szW (τ 26)) ∧ LI (τ 25 3) (τ 8) (szW (τ 26)) (nI t).toNatClampNeg W (τ 26) (τ 27) := by
          rw [et, τ3, τ8, τ26, τ27, hL.2.2.1]
          exact ⟨rfl, by omega, hrt, hmx, hL⟩
        rw [← hτ]
        refine dk_cs (nI t, W) rfl rfl rfl hpre (fun r2 σ2 hq2 => ?_)
        obtain ⟨c2, wt', tw', qu', fi', hσ2, hsc2, hL2⟩ := hq2
        have hL2 : LI (τ 25 3) (τ 8) (szW (τ 26)) ((nI t).toNatClampNeg + 1) r2 wt' tw' := hL2
        rw [et, τ3, τ8, τ26, hL.2.2.1] at hL2
        rw [hσ2, hτ, SM_SM]
        refine ⟨by decide, by decide, ?_⟩
        have key := ih (t + 1) r2 c2 wt' tw' qu' fi' (by omega) (fun j h1 h2 => by
          rw [hsc2 j h1 h2, hτ]
          exact hsc j h1 h2) hL2
        rw [← nI_1 t] at key
        exact key
  refine hC.go (fun q => if q = 70 then some 6 else none) 60 ?_
  refine ⟨by decide, by decide, ?_⟩
  have key := loop 30 0 65535 (σ 25) (σ 26) (σ 27) (σ 28) (σ 29) (by omega) (fun _ _ _ => rfl) ⟨hMI, hMA, rfl, fun v hv => ⟨fun _ s hs => by omega, fun _ => b_65535 v hv⟩, fun s hs => by omega, fun s hs => by omega⟩
  rw [SM_id] at key
  exact key
