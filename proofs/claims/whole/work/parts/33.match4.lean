/-! keepCover, take -/
theorem b_not (x : Int32) {i : Nat} (hi : i < 32) : bt (x ^^^ (-1)) i = !bt x i := by rw [b_xor, b_m1 i hi]; cases bt x i <;> rfl
/-- without one bit -/
theorem b_cut (x : Int32) {n i : Nat} (hn : n < 32) (hi : i < 32) : bt (x &&& (((1 : Int32) <<< (nI n &&& 31)) ^^^ (-1))) i = (bt x i && !decide (i = n)) := by
  rw [b_and, b_not _ hi, b_bit hn hi]
abbrev sp_keepCover : dk_M := dk_sp 1 false (fun _ : Unit => [.inr 25]) (fun _ σ => ∃ q, q ≤ 30 ∧ σ 25 9 = nI q ∧ ∀ j, j < q → ∃ t, t < 30 ∧ σ 28 j = nI t)
  (fun _ σ _ σ' => ∃ ct, σ' = dk_up σ 25 (upd (upd (σ 25) 4 ct) 5 (σ 25 10)) ∧ ∀ q, q ≤ 30 → σ 25 9 = nI q → ∀ i, i < 32 → (bt ct i = true ↔ bt (σ 25 3) i = true ∧ ∀ j, j < q → ¬ σ 28 j = nI i))
set_option maxRecDepth 100000 in
set_option maxHeartbeats 1000000 in
theorem q_keepCover : dk_pure (kX3_keepCover, fX3, [], [], nX3, 2, false) sp_keepCover := by
  refine dk_sp_pure (fun _ _ _ => rfl) (fun _ => rfl) ?_
  rintro OK _ σ ⟨q, hq, hq9, hqu⟩ hC
  have u4 : ∀ (a b : Int32), upd (upd (σ 25) 4 a) 4 b = upd (σ 25) 4 b := fun a b => by funext j; unfold upd; split <;> rfl
  have loop : ∀ (n i : Nat) (ct : Int32), i + n = q → (∀ k, k < 32 → (bt ct k = true ↔ bt (σ 25 3) k = true ∧ ∀ j, j < i → ¬ σ 28 j = nI k)) → OK 10 [(0, .inr 25), (1, .inl (nI i))] [] (dk_up σ 25 (upd (σ 25) 4 ct)) := by
    intro n
    induction n with
    | zero =>
      intro i ct hi hct
      refine hC.go (fun q => if q = 10 then some 2 else none) 60 ?_
      refine ⟨fun _ => ⟨ct, ?_, fun q' hq' hq9' => ?_⟩, fun h => ?_⟩
      · show dk_up (dk_up σ 25 (upd (σ 25) 4 ct)) 25 (upd (upd (σ 25) 4 ct) 5 (σ 25 10)) = _
        rw [dk_up_up]
      · rw [hq9, nI_eq (by omega) (by omega)] at hq9'
        rw [← hq9', show q = i by omega]
        exact hct
      · exfalso
        apply h
        show σ 25 9 ≤ nI i
        rw [hq9, show q = i by omega]
        exact Int32.le_refl _
    | succ n ih =>
      intro i ct hi hct
      have ei : (nI i).toNatClampNeg = i := nI_clamp (by omega)
      obtain ⟨t, ht, ht1⟩ := hqu i (by omega)
      refine hC.go (fun q => if q = 10 then some 2 else none) 60 ?_
      refine ⟨fun h => ?_, fun _ => ⟨30, rfl, vp_in_nI (by omega) (by omega), by decide, ?_⟩⟩
      · exfalso
        have h : σ 25 9 ≤ nI i := h
        rw [hq9] at h
        exact nI_ge (by omega) (by omega) h
      · have key := ih (i + 1) (ct &&& (((1 : Int32) <<< (nI t &&& 31)) ^^^ (-1))) (by omega) (fun k hk => ?_)
        · rw [← nI_1 i] at key
          have e : dk_up (dk_up σ 25 (upd (σ 25) 4 ct)) 25 (upd (upd (σ 25) 4 ct) 4 (ct &&& (((1 : Int32) <<< (σ 28 (nI i).toNatClampNeg &&& 31)) ^^^ (-1)))) = dk_up σ 25 (upd (σ 25) 4 (ct &&& (((1 : Int32) <<< (nI t &&& 31)) ^^^ (-1)))) := by
            rw [dk_up_up, u4, ei, ht1]
          rw [← e] at key
          exact key
        · rw [b_cut ct (by omega) hk]
          simp only [Bool.and_eq_true, Bool.not_eq_true', decide_eq_false_iff_not]
          rw [hct k hk]
          constructor
          · rintro ⟨⟨a, b⟩, c⟩
            refine ⟨a, fun j hj => ?_⟩
            by_cases e : j = i
            · subst e
              rw [ht1]
              intro q
              rw [nI_eq (by omega) (by omega)] at q
              exact c q.symm
            · exact b j (by omega)
          · rintro ⟨a, b⟩
            refine ⟨⟨a, fun j hj => b j (by omega)⟩, fun c => ?_⟩
            have := b i (by omega)
            rw [ht1, c] at this
            exact this rfl
  refine hC.go (fun q => if q = 10 then some 2 else none) 60 ?_
  refine ⟨by decide, ?_⟩
  exact loop q 0 (σ 25 3) (by omega) (fun k hk => ⟨fun h => ⟨h, fun j hj => by omega⟩, fun h => h.1⟩)
/-- matched tasks run, and their workers have the skill -/
def MA (ru : Int32) (sk wt : Nat → Int32) : Prop := ∀ s, s < 30 → ∀ w, w < 16 → wt s = nI w → bt ru s = true ∧ bt (sk s) w = true
def adjS (sk : Nat → Int32) (t w : Nat) : Prop := bt (sk t) w = true
def ltr (ru : Int32) (t s : Nat) : Prop := t < s ∧ bt ru s = true
def inW (W : Int32) (w : Nat) : Prop := bt W w = true
noncomputable def szW (wt : Nat → Int32) : Nat := cp (fun s => ¬ wt s = -1) 30
noncomputable def szL (wt : Nat → Int32) (t : Nat) : Nat := cp (fun s => t < s ∧ ¬ wt s = -1) 30
/-- what take stands on: the task t, the worker w, and W the other workers that are left -/
def tk (σ : dk_S) (t w : Nat) (W : Int32) : Prop := MI (σ 26) (σ 27) ∧ MA (σ 25 3) (σ 8) (σ 26) ∧ t < 30 ∧ w < 16 ∧ bt (σ 25 3) t = true ∧ bt (σ 8 t) w = true ∧ ¬ bt W w = true ∧
  (∀ s, s < t → ∀ v, v < 16 → σ 26 s = nI v → ¬ bt W v = true ∧ ¬ v = w) ∧ (∀ s, s < t → bt (σ 25 3) s = true → σ 26 s = -1 → ∀ v, v < 16 → bt W v = true → ¬ bt (σ 8 s) v = true) ∧ (∀ s, s < 30 → t ≤ s → ∀ v, v < 16 → σ 26 s = nI v → bt W v = true ∨ v = w)
/-- the match cell but for what a search notes -/
def sc (c c' : Nat → Int32) : Prop := ∀ j, ¬ j = 9 → ¬ j = 10 → c' j = c j
theorem MI.inj {wt tw : Nat → Int32} (h : MI wt tw) {s s' w : Nat} (hs : s < 30) (hs' : s' < 30) (hw : w < 16) (h1 : wt s = nI w) (h2 : wt s' = nI w) : s = s' := by
  rcases h.1 s hs with q | ⟨v, hv, q1, q2⟩
  · rw [q] at h1; exact absurd h1.symm (nI_m1 (by omega))
  · rcases h.1 s' hs' with r | ⟨x, hx, r1, r2⟩
    · rw [r] at h2; exact absurd h2.symm (nI_m1 (by omega))
    · rw [h1, nI_eq (by omega) (by omega)] at q1
      rw [h2, nI_eq (by omega) (by omega)] at r1
      subst q1
      subst r1
      rw [q2, nI_eq (by omega) (by omega)] at r2
      exact r2
theorem MI.get {wt tw : Nat → Int32} (h : MI wt tw) {s : Nat} (hs : s < 30) (hn : ¬ wt s = -1) : ∃ w, w < 16 ∧ wt s = nI w ∧ tw w = nI s := (h.1 s hs).resolve_left hn
theorem MI.tw {wt tw : Nat → Int32} (h : MI wt tw) {s w : Nat} (hs : s < 30) (hw : w < 16) (h1 : wt s = nI w) : tw w = nI s := by
  obtain ⟨v, hv, q1, q2⟩ := h.get hs (by rw [h1]; exact nI_m1 (by omega))
  rw [h1, nI_eq (by omega) (by omega)] at q1
  subst q1
  exact q2
theorem MI.wt {wt tw : Nat → Int32} (h : MI wt tw) {s w : Nat} (hs : s < 30) (hw : w < 16) (h1 : tw w = nI s) : wt s = nI w := by
  rcases h.2 w hw with q | ⟨x, hx, q1, q2⟩
  · rw [q] at h1; exact absurd h1.symm (nI_m1 (by omega))
  · rw [h1, nI_eq (by omega) (by omega)] at q1
    subst q1
    exact q2
abbrev sp_take : dk_M := dk_sp 4 true (fun x : Int32 × Int32 × Int32 => [.inr 25, .inl x.1, .inl x.2.1, .inl x.2.2]) (fun x σ => ∃ t w, x.1 = nI t ∧ x.2.1 = nI w ∧ tk σ t w x.2.2)
  (fun x σ r σ' => ∀ t w, x.1 = nI t → x.2.1 = nI w → tk σ t w x.2.2 → ∃ c' wt' tw' qu fi, σ' = SM σ c' wt' tw' qu fi ∧ sc (σ 25) c' ∧ MI wt' tw' ∧ MA (σ 25 3) (σ 8) wt' ∧
    ((r = 1 ∧ (∀ s, s < t → wt' s = σ 26 s) ∧ wt' t = nI w ∧ (∀ s, s < 30 → t < s → ∀ v, v < 16 → wt' s = nI v → bt x.2.2 v = true) ∧ szW (σ 26) ≤ szW wt') ∨
     (r = 0 ∧ wt' = σ 26 ∧ tw' = σ 27 ∧ ¬ σ 26 t = -1 ∧ ∀ N, isM (adjS (σ 8)) (ltr (σ 25 3) t) (inW x.2.2) N → szM N + 1 ≤ szL (σ 26) t)))
/-- the task t gets the worker w, who had it loses it -/
theorem MI.pair {wt tw wt2 tw2 : Nat → Int32} (h : MI wt tw) {t w : Nat} (ht : t < 30) (hw : w < 16) (h1 : ∀ s, s < 30 → wt2 s = if s = t then nI w else if wt s = nI w then -1 else wt s) (h2 : ∀ v, v < 16 → tw2 v = if v = w then nI t else if tw v = nI t then -1 else tw v) : MI wt2 tw2 := by
  refine ⟨fun s hs => ?_, fun v hv => ?_⟩
  · rw [h1 s hs]
    by_cases e : s = t
    · rw [if_pos e]
      exact Or.inr ⟨w, hw, rfl, by rw [h2 w hw, if_pos rfl, e]⟩
    · rw [if_neg e]
      by_cases e2 : wt s = nI w
      · rw [if_pos e2]; exact Or.inl rfl
      · rw [if_neg e2]
        rcases h.1 s hs with q | ⟨v, hv, q1, q2⟩
        · exact Or.inl q
        · refine Or.inr ⟨v, hv, q1, ?_⟩
          have hvw : ¬ v = w := fun c => e2 (by rw [q1, c])
          rw [h2 v hv, if_neg hvw, if_neg (fun c => ?_)]
          · exact q2
          · rw [q2, nI_eq (by omega) (by omega)] at c
            exact e c
  · rw [h2 v hv]
    by_cases e : v = w
    · rw [if_pos e]
      exact Or.inr ⟨t, ht, rfl, by rw [h1 t ht, if_pos rfl, e]⟩
    · rw [if_neg e]
      by_cases e2 : tw v = nI t
      · rw [if_pos e2]; exact Or.inl rfl
      · rw [if_neg e2]
        rcases h.2 v hv with q | ⟨s, hs, q1, q2⟩
        · exact Or.inl q
        · refine Or.inr ⟨s, hs, q1, ?_⟩
          have hst : ¬ s = t := fun c => e2 (by rw [q1, c])
          rw [h1 s hs, if_neg hst, if_neg (fun c => ?_)]
          · exact q2
          · rw [q2, nI_eq (by omega) (by omega)] at c
            exact e c
set_option maxRecDepth 100000 in
set_option maxHeartbeats 4000000 in
theorem q_take : dk_pure (kX3_take, fX3, [(91, sp_pair), (48, sp_widen)], [], nX3, 6, true) sp_take := by
  refine dk_sp_pure (fun x x' e => by obtain ⟨a, b, c⟩ := x; obtain ⟨a', b', c'⟩ := x'; cases e; rfl) (fun _ => rfl) ?_
  rintro OK ⟨xt, xw, W⟩ σ ⟨t, w, hxt, hxw, htk⟩ hC
  have hxt : xt = nI t := hxt
  have hxw : xw = nI w := hxw
  subst hxt
  subst hxw
  have htk : tk σ t w W := htk
  obtain ⟨hMI, hMA, ht, hw, hrt, hsk, hWw, hd1, hd2, hl⟩ := htk
  have et : (nI t).toNatClampNeg = t := nI_clamp (by omega)
  have ew : (nI w).toNatClampNeg = w := nI_clamp (by omega)
  have hit : vp_in (nI t) 30 := vp_in_nI ht (by omega)
  have hiw : vp_in (nI w) 16 := vp_in_nI hw (by omega)
  have post : ∀ (r : Int32) σ', (∃ c' wt' tw' qu fi, σ' = SM σ c' wt' tw' qu fi ∧ sc (σ 25) c' ∧ MI wt' tw' ∧ MA (σ 25 3) (σ 8) wt' ∧
      ((r = 1 ∧ (∀ s, s < t → wt' s = σ 26 s) ∧ wt' t = nI w ∧ (∀ s, s < 30 → t < s → ∀ v, v < 16 → wt' s = nI v → bt W v = true) ∧ szW (σ 26) ≤ szW wt') ∨
       (r = 0 ∧ wt' = σ 26 ∧ tw' = σ 27 ∧ ¬ σ 26 t = -1 ∧ ∀ N, isM (adjS (σ 8)) (ltr (σ 25 3) t) (inW W) N → szM N + 1 ≤ szL (σ 26) t))) →
      ∀ t2 w2, nI t = nI t2 → nI w = nI w2 → tk σ t2 w2 W → ∃ c' wt' tw' qu fi, σ' = SM σ c' wt' tw' qu fi ∧ sc (σ 25) c' ∧ MI wt' tw' ∧ MA (σ 25 3) (σ 8) wt' ∧
      ((r = 1 ∧ (∀ s, s < t2 → wt' s = σ 26 s) ∧ wt' t2 = nI w2 ∧ (∀ s, s < 30 → t2 < s → ∀ v, v < 16 → wt' s = nI v → bt W v = true) ∧ szW (σ 26) ≤ szW wt') ∨
       (r = 0 ∧ wt' = σ 26 ∧ tw' = σ 27 ∧ ¬ σ 26 t2 = -1 ∧ ∀ N, isM (adjS (σ 8)) (ltr (σ 25 3) t2) (inW W) N → szM N + 1 ≤ szL (σ 26) t2)) := by
    intro r σ' h t2 w2 e1 e2 h2
    have a1 := h2.2.2.1
    have a2 := h2.2.2.2.1
    rw [nI_eq (by omega) (by omega)] at e1 e2
    subst e1
    subst e2
    exact h
  -- behind the pair: what is so of the rows
  have back : ∀ (wt2 tw2 : Nat → Int32), MI wt2 tw2 → (∀ s, s < 30 → wt2 s = if s = t then nI w else if σ 26 s = nI w then -1 else σ 26 s) → MA (σ 25 3) (σ 8) wt2 ∧ (∀ s, s < t → wt2 s = σ 26 s) ∧ wt2 t = nI w ∧ (∀ s, s < 30 → t < s → ∀ v, v < 16 → wt2 s = nI v → bt W v = true) := by
    intro wt2 tw2 hM h1
    refine ⟨fun s hs v hv e => ?_, fun s hs => ?_, by rw [h1 t ht, if_pos rfl], fun s hs hts v hv e => ?_⟩
    · rw [h1 s hs] at e
      by_cases c : s = t
      · rw [if_pos c, nI_eq (by omega) (by omega)] at e
        subst e
        subst c
        exact ⟨hrt, hsk⟩
      · rw [if_neg c] at e
        by_cases c2 : σ 26 s = nI w
        · rw [if_pos c2] at e; exact absurd e.symm (nI_m1 (by omega))
        · rw [if_neg c2] at e; exact hMA s hs v hv e
    · rw [h1 s (by omega), if_neg (by omega), if_neg (fun c => (hd1 s hs w hw c).2 rfl)]
    · rw [h1 s hs, if_neg (by omega)] at e
      by_cases c2 : σ 26 s = nI w
      · rw [if_pos c2] at e; exact absurd e.symm (nI_m1 (by omega))
      · rw [if_neg c2] at e
        rcases hl s hs (by omega) v hv e with q | q
        · exact q
        · rw [q] at e; exact absurd e c2
  refine hC.go (fun q => if q = 52 then some 6 else none) 60 ?_
  refine ⟨30, rfl, hit, by decide, 16, rfl, hiw, by decide, fun h => ?_, fun h => ⟨Or.inr rfl, post (Int32.ofInt 1) _ ⟨σ 25, σ 26, σ 27, σ 28, σ 29, SM_id.symm, fun _ _ _ => rfl, hMI, hMA, Or.inl ⟨rfl, fun _ _ => rfl, ?_, fun s hs hts v hv e => ?_, Nat.le_refl _⟩⟩⟩⟩
  · have h : ¬ σ 26 (nI t).toNatClampNeg = nI w := h
    rw [et] at h
    -- the old worker, the old task
    have hcase : ∀ (old ot : Int32), old = σ 26 t → ot = σ 27 w → ∀ (wt1 tw1 : Nat → Int32), (∀ s, s < 30 → wt1 s = if σ 26 s = nI w then -1 else σ 26 s) → (∀ v, v < 16 → ¬ v = w → tw1 v = if σ 27 v = nI t then -1 else σ 27 v) →
        (∀ o u, o < 16 → u < 30 → old = nI o → ot = nI u → upd (upd (upd wt1 t (nI w)) t (nI o)) u (nI w) = σ 26 ∧ upd (upd (upd tw1 w (nI t)) o (nI t)) w (nI u) = σ 27) →
        OK 52 [(0, .inr 25), (1, .inl (nI t)), (2, .inl (nI w)), (3, .inl W), (4, .inl old), (5, .inl ot)] [] (SM σ (σ 25) wt1 tw1 (σ 28) (σ 29)) := by
      intro old ot hold hot wt1 tw1 hw1 ht1 hres
      obtain ⟨wt2, hwt2⟩ : ∃ wt2, wt2 = upd wt1 t (nI w) := ⟨_, rfl⟩
      obtain ⟨tw2, htw2⟩ : ∃ tw2, tw2 = upd tw1 w (nI t) := ⟨_, rfl⟩
      have f1 : ∀ s, s < 30 → wt2 s = if s = t then nI w else if σ 26 s = nI w then -1 else σ 26 s := fun s hs => by
        rw [hwt2]
        unfold upd
        by_cases c : s = t
        · rw [if_pos c, if_pos c]
        · rw [if_neg c, if_neg c]; exact hw1 s hs
      have f2 : ∀ v, v < 16 → tw2 v = if v = w then nI t else if σ 27 v = nI t then -1 else σ 27 v := fun v hv => by
        rw [htw2]
        unfold upd
        by_cases c : v = w
        · rw [if_pos c, if_pos c]
        · rw [if_neg c, if_neg c]; exact ht1 v hv c
      have hM2 := hMI.pair ht hw f1 f2
      obtain ⟨k1, k2, k3, k4⟩ := back wt2 tw2 hM2 f1
      -- who is matched behind the pair
      have hmat : ∀ s, s < 30 → (¬ wt2 s = -1 ↔ (s = t ∨ (¬ σ 26 s = -1 ∧ ¬ σ 26 s = nI w))) := fun s hs => by
        rw [f1 s hs]
        by_cases c : s = t
        · rw [if_pos c]; exact ⟨fun _ => Or.inl c, fun _ => nI_m1 (by omega)⟩
        · rw [if_neg c]
          by_cases c2 : σ 26 s = nI w
          · rw [if_pos c2]; exact ⟨fun q => absurd rfl q, fun q => by
              rcases q with q | q
              · exact absurd q c
              · exact absurd c2 q.2⟩
          · rw [if_neg c2]; exact ⟨fun q => Or.inr ⟨q, c2⟩, fun q => by
              rcases q with q | q
              · exact absurd q c
              · exact q.1⟩
      refine hC.go (fun _ => none) 60 ?_
      refine dk_cs (nI t, nI w) rfl rfl rfl ⟨⟨t, ht, rfl⟩, w, hw, rfl⟩ (fun _ σ1 hq => ?_)
      have hq : σ1 = SM σ (σ 25) wt2 tw2 (σ 28) (σ 29) := by
        rw [hq, SM_SM, hwt2, htw2]
        show SM σ (σ 25) (upd wt1 (nI t).toNatClampNeg (nI w)) (upd tw1 (nI w).toNatClampNeg (nI t)) (σ 28) (σ 29) = _
        rw [et, ew]
      rw [hq]
      have same : (old = -1 ∨ ot = -1) → szW (σ 26) ≤ szW wt2 := by
        intro hor
        unfold szW
        by_cases c : ∃ u, u < 30 ∧ σ 26 u = nI w
        · obtain ⟨u, hu, hu1⟩ := c
          have hot' : ¬ ot = -1 := by rw [hot, hMI.tw hu hw hu1]; exact nI_m1 (by omega)
          have hold' : σ 26 t = -1 := by rw [← hold]; exact hor.resolve_right hot'
          have r1 := cp_remove (Q := fun s => ¬ σ 26 s = -1) (m := 30) hu (by rw [hu1]; exact nI_m1 (by omega))
          have r2 := cp_remove (Q := fun s => ¬ wt2 s = -1) (m := 30) ht (by rw [k3]; exact nI_m1 (by omega))
          have r3 : cp (fun s => ¬ σ 26 s = -1 ∧ ¬ s = u) 30 ≤ cp (fun s => ¬ wt2 s = -1 ∧ ¬ s = t) 30 := cp_mono (fun s hs q => ⟨(hmat s hs).mpr (Or.inr ⟨q.1, fun c => q.2 (hMI.inj hs hu hw c hu1)⟩), fun c => q.1 (by rw [c]; exact hold')⟩)
          omega
        · exact cp_mono (fun s hs q => (hmat s hs).mpr (Or.inr ⟨q, fun c2 => c ⟨s, hs, c2⟩⟩))
      have done : (old = -1 ∨ ot = -1) → ∃ c' wt' tw' qu fi, SM σ (σ 25) wt2 tw2 (σ 28) (σ 29) = SM σ c' wt' tw' qu fi ∧ sc (σ 25) c' ∧ MI wt' tw' ∧ MA (σ 25 3) (σ 8) wt' ∧
          ((Int32.ofInt 1 = 1 ∧ (∀ s, s < t → wt' s = σ 26 s) ∧ wt' t = nI w ∧ (∀ s, s < 30 → t < s → ∀ v, v < 16 → wt' s = nI v → bt W v = true) ∧ szW (σ 26) ≤ szW wt') ∨
           (Int32.ofInt 1 = 0 ∧ wt' = σ 26 ∧ tw' = σ 27 ∧ ¬ σ 26 t = -1 ∧ ∀ N, isM (adjS (σ 8)) (ltr (σ 25 3) t) (inW W) N → szM N + 1 ≤ szL (σ 26) t)) := fun hor =>
        ⟨σ 25, wt2, tw2, σ 28, σ 29, rfl, fun _ _ _ => rfl, hM2, k1, Or.inl ⟨rfl, k2, k3, k4, same hor⟩⟩
      refine ⟨fun c1 => ⟨Or.inr rfl, post (Int32.ofInt 1) _ (done (Or.inl c1))⟩, fun c1 => ⟨fun c2 => ⟨Or.inr rfl, post (Int32.ofInt 1) _ (done (Or.inr c2))⟩, fun c2 => ?_⟩⟩
      have c1 : ¬ old = -1 := c1
      have c2 : ¬ ot = -1 := c2
      have hrun2 : ∀ s, s < 30 → ¬ wt2 s = -1 → bt (σ 25 3) s = true := fun s hs q => by
        obtain ⟨v, hv, q1, -⟩ := hM2.get hs q
        exact (k1 s hs v hv q1).1
      obtain ⟨o, ho, ho1, ho2⟩ := hMI.get ht (by rw [← hold]; exact c1)
      obtain ⟨u, hu, hu1, hu2⟩ : ∃ u, u < 30 ∧ σ 27 w = nI u ∧ σ 26 u = nI w := by
        rcases hMI.2 w hw with q | q
        · rw [← hot] at q; exact absurd q c2
        · exact q
      have hut : ¬ u = t := fun c => by rw [c] at hu2; exact h hu2
      have htu : t < u := by
        rcases Nat.lt_trichotomy u t with c | c | c
        · exact absurd rfl (hd1 u c w hw hu2).2
        · exact absurd c hut
        · exact c
      refine dk_cs W rfl rfl rfl ⟨hM2, hrun2⟩ (fun r σ2 hq2 => ?_)
      rcases hq2 with ⟨hr, wt3, tw3, qu, fi, se, q, hσ2, hM3, ⟨t0, ht0, ht01, ht02, ht03⟩, hch⟩ | ⟨hr, qu, fi, se, q, X, fp, qt, hσ2, hBI, hXs, -⟩
      · subst hr
        refine ⟨fun q => absurd q i32_ne10, fun _ => ⟨Or.inr rfl, post (Int32.ofInt 1) _ ⟨_, wt3, tw3, qu, fi, by rw [hσ2, SM_SM], fun j h9 h10 => ?_, hM3, fun s hs v hv e => ?_, Or.inl ⟨rfl, fun s hs => ?_, ?_, fun s hs hts v hv e => ?_, ?_⟩⟩⟩⟩
        · show upd (upd (σ 25) 10 se) 9 (nI q) j = σ 25 j
          unfold upd
          rw [if_neg h9, if_neg h10]
        · rcases hch s hs with c | ⟨x, hx, c3, c4, c5, c6, -⟩
          · rw [c] at e; exact k1 s hs v hv e
          · rw [e, nI_eq (by omega) (by omega)] at c3
            subst c3
            exact ⟨c6, c4⟩
        · rcases hch s (by omega) with c | ⟨x, hx, c3, c4, c5, c6, c7⟩
          · rw [c]; exact k2 s hs
          · exfalso
            have c7 : wt2 s = -1 ∨ ∃ w0, w0 < 16 ∧ wt2 s = nI w0 ∧ bt W w0 = true := c7
            rw [k2 s hs] at c7
            rcases c7 with c7 | ⟨y, hy, c8, c9⟩
            · exact hd2 s hs c6 c7 x hx c5 c4
            · exact (hd1 s hs y hy c8).1 c9
        · rcases hch t ht with c | ⟨x, hx, c3, c4, c5, c6, c7⟩
          · rw [c]; exact k3
          · exfalso
            have c7 : wt2 t = -1 ∨ ∃ w0, w0 < 16 ∧ wt2 t = nI w0 ∧ bt W w0 = true := c7
            rw [k3] at c7
            rcases c7 with c7 | ⟨y, hy, c8, c9⟩
            · exact nI_m1 (by omega) c7
            · rw [nI_eq (by omega) (by omega)] at c8
              subst c8
              exact hWw c9
        · rcases hch s hs with c | ⟨x, hx, c3, c4, c5, c6, c7⟩
          · rw [c] at e; exact k4 s hs hts v hv e
          · rw [e, nI_eq (by omega) (by omega)] at c3
            subst c3
            exact c5
        · have ht01 : wt2 t0 = -1 := ht01
          have ht03 : ∀ s, s < 30 → (¬ wt3 s = -1 ↔ (¬ wt2 s = -1 ∨ s = t0)) := ht03
          unfold szW
          have r1 := cp_remove (Q := fun s => ¬ σ 26 s = -1) (m := 30) hu (by rw [hu2]; exact nI_m1 (by omega))
          have r2 := cp_remove (Q := fun s => ¬ wt3 s = -1) (m := 30) ht0 ((ht03 t0 ht0).mpr (Or.inr rfl))
          have r3 : cp (fun s => ¬ σ 26 s = -1 ∧ ¬ s = u) 30 ≤ cp (fun s => ¬ wt3 s = -1 ∧ ¬ s = t0) 30 := cp_mono (fun s hs q => by
            have hm : ¬ wt2 s = -1 := (hmat s hs).mpr (Or.inr ⟨q.1, fun c => q.2 (hMI.inj hs hu hw c hu2)⟩)
            exact ⟨(ht03 s hs).mpr (Or.inl hm), fun c => hm (by rw [c]; exact ht01)⟩)
          omega
      · subst hr
        have hσ2 : σ2 = SM σ (upd (upd (σ 25) 10 se) 9 (nI q)) wt2 tw2 qu fi := by rw [hσ2, SM_SM]; rfl
        have hBI : BI (σ 25 3) (σ 8) wt2 tw2 qu fi q W X fp qt q 16 := hBI
        rw [hσ2]
        refine ⟨fun _ => ?_, fun q => absurd rfl q⟩
        refine dk_cs (nI t, nI o) rfl rfl ?_ ⟨⟨t, ht, rfl⟩, o, ho, rfl⟩ (fun _ σ3 hq3 => ?_)
        · show ([.inr 25, .inl (nI t), .inl old] : List dk_V) = [.inr 25, .inl (nI t), .inl (nI o)]
          rw [hold, ho1]
        have hq3 : σ3 = SM σ (upd (upd (σ 25) 10 se) 9 (nI q)) (upd wt2 (nI t).toNatClampNeg (nI o)) (upd tw2 (nI o).toNatClampNeg (nI t)) qu fi := by rw [hq3, SM_SM]; rfl
        rw [et, nI_clamp (by omega)] at hq3
        rw [hq3]
        refine dk_cs (nI u, nI w) rfl rfl ?_ ⟨⟨u, hu, rfl⟩, w, hw, rfl⟩ (fun _ σ4 hq4 => ?_)
        · show ([.inr 25, .inl ot, .inl (nI w)] : List dk_V) = [.inr 25, .inl (nI u), .inl (nI w)]
          rw [hot, hu1]
        have hq4 : σ4 = SM σ (upd (upd (σ 25) 10 se) 9 (nI q)) (upd (upd wt2 t (nI o)) (nI u).toNatClampNeg (nI w)) (upd (upd tw2 o (nI t)) (nI w).toNatClampNeg (nI u)) qu fi := by rw [hq4, SM_SM]; rfl
        obtain ⟨e1, e2⟩ := hres o u ho hu (by rw [hold, ho1]) (by rw [hot, hu1])
        rw [ew, nI_clamp (by omega), hwt2, htw2, e1, e2] at hq4
        refine ⟨Or.inl rfl, post (Int32.ofInt 0) _ ⟨_, σ 26, σ 27, qu, fi, hq4, fun j h9 h10 => ?_, hMI, hMA, Or.inr ⟨rfl, rfl, rfl, by rw [ho1]; exact nI_m1 (by omega), fun N hN => ?_⟩⟩⟩
        · show upd (upd (σ 25) 10 se) 9 (nI q) j = σ 25 j
          unfold upd
          rw [if_neg h9, if_neg h10]
        · obtain ⟨b1, b2, b3, b4, b5, b6, b7⟩ := hBI
          obtain ⟨M, hMd⟩ : ∃ M : Nat → Nat, M = fun s => if wt2 s = -1 then 16 else (wt2 s).toNatClampNeg := ⟨_, rfl⟩
          have hM1 : ∀ s, wt2 s = -1 → M s = 16 := fun s c => by rw [hMd]; simp [c]
          have hM3 : ∀ s v, v < 16 → wt2 s = nI v → M s = v := fun s v hv c => by
            rw [hMd]
            show (if wt2 s = -1 then 16 else (wt2 s).toNatClampNeg) = v
            rw [c, if_neg (nI_m1 (by omega)), nI_clamp (by omega)]
          have hM4 : ∀ s, s < 30 → (M s < 16 ↔ ¬ wt2 s = -1) := fun s hs => by
            constructor
            · intro c c2; rw [hM1 s c2] at c; omega
            · intro c
              obtain ⟨v, hv, c3, -⟩ := hM2.get hs c
              rw [hM3 s v hv c3]; exact hv
          have key := bfs_fail (adj := adjS (σ 8)) (U := ltr (σ 25 3) t) (W := inW W) (Z := fun s => ∃ i, i < q ∧ qt i = s) (X := X) (M := M) (fun a b ha hb hma e => by
              obtain ⟨v, hv, c3, -⟩ := hM2.get ha ((hM4 a ha).mp hma)
              rw [hM3 a v hv c3] at e
              obtain ⟨v2, hv2, c4, -⟩ := hM2.get hb ((hM4 b hb).mp (by omega))
              rw [hM3 b v2 hv2 c4] at e
              subst e
              exact hM2.inj ha hb hv c3 c4) (fun s hs hU hZ => by
              apply Classical.byContradiction
              intro c
              have c2 : wt2 s = -1 := by
                apply Classical.byContradiction
                intro c3
                exact c ((hM4 s hs).mpr c3)
              obtain ⟨i, hi, hi2⟩ := b7 s hs hU.2 c2
              exact hZ ⟨i, hi, hi2⟩) (fun s hs hU hZ v hv hWv ha => by
              obtain ⟨i, hi, rfl⟩ := hZ
              exact b6 i hi v hv ha hWv) (fun v hv hXv => by
              obtain ⟨i, hi, c3⟩ := b5 v hv hXv (by omega)
              have c4 := b1 i hi
              have c5 := hM2.wt c4.2.1 hv c3
              refine ⟨qt i, c4.2.1, ⟨?_, c4.2.2⟩, ⟨i, hi, rfl⟩, hM3 _ v hv c5⟩
              have c6 := (b3 v hv hXv).2.2.2
              rcases Nat.lt_trichotomy (qt i) t with c | c | c
              · exfalso
                rw [k2 _ c] at c5
                exact (hd1 _ c v hv c5).1 c6
              · exfalso
                rw [c, k3, nI_eq (by omega) (by omega)] at c5
                rw [c5] at hWw
                exact hWw c6
              · exact c) hN
          have r1 := cp_remove (Q := fun s => t < s ∧ ¬ σ 26 s = -1) (m := 30) hu ⟨htu, by rw [hu2]; exact nI_m1 (by omega)⟩
          have r2 : cp (fun s => ltr (σ 25 3) t s ∧ M s < 16) 30 ≤ cp (fun s => (t < s ∧ ¬ σ 26 s = -1) ∧ ¬ s = u) 30 := cp_mono (fun s hs c => by
            have c3 := (hmat s hs).mp ((hM4 s hs).mp c.2)
            rcases c3 with c3 | c3
            · have := c.1.1; omega
            · exact ⟨⟨c.1.1, c3.1⟩, fun c4 => c3.2 (by rw [c4]; exact hu2)⟩)
          unfold szL
          omega
    have eo : σ 26 (nI t).toNatClampNeg = σ 26 t := by rw [et]
    have eu : σ 27 (nI w).toNatClampNeg = σ 27 w := by rw [ew]
    have A0 : σ 27 w = -1 → ∀ s, s < 30 → σ 26 s = if σ 26 s = nI w then -1 else σ 26 s := fun c s hs => by
      rw [if_neg (fun q => ?_)]
      rw [hMI.tw hs hw q] at c
      exact nI_m1 (by omega) c
    have B0 : σ 26 t = -1 → ∀ v, v < 16 → ¬ v = w → σ 27 v = if σ 27 v = nI t then -1 else σ 27 v := fun c v hv _ => by
      rw [if_neg (fun q => ?_)]
      rw [hMI.wt ht hv q] at c
      exact nI_m1 (by omega) c
    have A1 : ∀ u, u < 30 → σ 27 w = nI u → ∀ s, s < 30 → upd (σ 26) u (-1) s = if σ 26 s = nI w then -1 else σ 26 s := fun u hu c s hs => by
      have cu := hMI.wt hu hw c
      unfold upd
      by_cases e : s = u
      · rw [if_pos e, e, if_pos cu]
      · rw [if_neg e, if_neg (fun q => e (hMI.inj hs hu hw q cu))]
    have B1 : ∀ o, o < 16 → σ 26 t = nI o → ∀ v, v < 16 → ¬ v = w → upd (σ 27) o (-1) v = if σ 27 v = nI t then -1 else σ 27 v := fun o ho c v hv _ => by
      have co := hMI.tw ht ho c
      unfold upd
      by_cases e : v = o
      · rw [if_pos e, e, if_pos co]
      · rw [if_neg e, if_neg (fun q => e ?_)]
        have := hMI.wt ht hv q
        rw [c, nI_eq (by omega) (by omega)] at this
        exact this.symm
    have getu : ¬ σ 27 w = -1 → ∃ u, u < 30 ∧ σ 27 w = nI u := fun c => by
      rcases hMI.2 w hw with q | ⟨u, hu, q, -⟩
      · exact absurd q c
      · exact ⟨u, hu, q⟩
    have geto : ¬ σ 26 t = -1 → ∃ o, o < 16 ∧ σ 26 t = nI o := fun c => by
      obtain ⟨o, ho, q, -⟩ := hMI.get ht c
      exact ⟨o, ho, q⟩
    have S26 : ∀ a, SM σ (σ 25) a (σ 27) (σ 28) (σ 29) = dk_up σ 26 a := fun a => by
      conv => rhs; rw [← SM_id (σ := σ)]
      rw [SM_26]
    have S27 : ∀ a, SM σ (σ 25) (σ 26) a (σ 28) (σ 29) = dk_up σ 27 a := fun a => by
      conv => rhs; rw [← SM_id (σ := σ)]
      rw [SM_27]
    have S67 : ∀ a b, SM σ (σ 25) a b (σ 28) (σ 29) = dk_up (dk_up σ 27 b) 26 a := fun a b => by
      conv => rhs; rw [← SM_id (σ := σ)]
      rw [SM_27, SM_26]
    refine ⟨fun c1 => ⟨fun c2 => ?_, fun c2 => ⟨30, rfl, ?_, ?_⟩⟩, fun c1 => ⟨16, rfl, ?_, fun c2 => ?_, fun c2 => ⟨30, rfl, ?_, ?_⟩⟩⟩
    · have c1 : σ 26 (nI t).toNatClampNeg = -1 := c1
      have c2 : σ 27 (nI w).toNatClampNeg = -1 := c2
      rw [et] at c1
      rw [ew] at c2
      have key := hcase (σ 26 (nI t).toNatClampNeg) (σ 27 (nI w).toNatClampNeg) eo eu (σ 26) (σ 27) (A0 c2) (B0 c1) (fun o u ho hu q => by
        rw [eo, c1] at q
        exact absurd q.symm (nI_m1 (by omega)))
      rw [SM_id] at key
      exact key
    · have c2 : ¬ σ 27 (nI w).toNatClampNeg = -1 := c2
      rw [ew] at c2
      obtain ⟨u, hu, hu1⟩ := getu c2
      show vp_in (σ 27 (nI w).toNatClampNeg) 30
      rw [ew, hu1]
      exact vp_in_nI hu (by omega)
    · have c1 : σ 26 (nI t).toNatClampNeg = -1 := c1
      have c2 : ¬ σ 27 (nI w).toNatClampNeg = -1 := c2
      rw [et] at c1
      rw [ew] at c2
      obtain ⟨u, hu, hu1⟩ := getu c2
      have key := hcase (σ 26 (nI t).toNatClampNeg) (σ 27 (nI w).toNatClampNeg) eo eu (upd (σ 26) (σ 27 (nI w).toNatClampNeg).toNatClampNeg (-1)) (σ 27) (by
          rw [eu, hu1, nI_clamp (by omega)]; exact A1 u hu hu1) (B0 c1) (fun o u ho hu q => by
        rw [eo, c1] at q
        exact absurd q.symm (nI_m1 (by omega)))
      rw [S26] at key
      exact key
    · have c1 : ¬ σ 26 (nI t).toNatClampNeg = -1 := c1
      rw [et] at c1
      obtain ⟨o, ho, ho1⟩ := geto c1
      show vp_in (σ 26 (nI t).toNatClampNeg) 16
      rw [et, ho1]
      exact vp_in_nI ho (by omega)
    · have c1 : ¬ σ 26 (nI t).toNatClampNeg = -1 := c1
      have c2 : σ 27 (nI w).toNatClampNeg = -1 := c2
      rw [et] at c1
      rw [ew] at c2
      obtain ⟨o, ho, ho1⟩ := geto c1
      have key := hcase (σ 26 (nI t).toNatClampNeg) (σ 27 (nI w).toNatClampNeg) eo eu (σ 26) (upd (σ 27) (σ 26 (nI t).toNatClampNeg).toNatClampNeg (-1)) (A0 c2) (by
          rw [eo, ho1, nI_clamp (by omega)]; exact B1 o ho ho1) (fun o u ho hu _ q => by
        rw [eu, c2] at q
        exact absurd q.symm (nI_m1 (by omega)))
      rw [S27] at key
      exact key
    · have c2 : ¬ σ 27 (nI w).toNatClampNeg = -1 := c2
      rw [ew] at c2
      obtain ⟨u, hu, hu1⟩ := getu c2
      show vp_in (σ 27 (nI w).toNatClampNeg) 30
      rw [ew, hu1]
      exact vp_in_nI hu (by omega)
    · have c1 : ¬ σ 26 (nI t).toNatClampNeg = -1 := c1
      have c2 : ¬ σ 27 (nI w).toNatClampNeg = -1 := c2
      rw [et] at c1
      rw [ew] at c2
      obtain ⟨u, hu, hu1⟩ := getu c2
      obtain ⟨o, ho, ho1⟩ := geto c1
      have key := hcase (σ 26 (nI t).toNatClampNeg) (σ 27 (nI w).toNatClampNeg) eo eu (upd (σ 26) (σ 27 (nI w).toNatClampNeg).toNatClampNeg (-1)) (upd (σ 27) (σ 26 (nI t).toNatClampNeg).toNatClampNeg (-1)) (by
          rw [eu, hu1, nI_clamp (by omega)]; exact A1 u hu hu1) (by
          rw [eo, ho1, nI_clamp (by omega)]; exact B1 o ho ho1) (fun o' u' ho' hu' q1 q2 => by
        rw [eo, ho1, nI_eq (by omega) (by omega)] at q1
        rw [eu, hu1, nI_eq (by omega) (by omega)] at q2
        subst q1
        subst q2
        rw [eo, eu, ho1, hu1, nI_clamp (by omega), nI_clamp (by omega)]
        have cu := hMI.wt hu hw hu1
        have co := hMI.tw ht ho ho1
        have hut : ¬ u = t := fun c => by rw [c] at cu; exact h cu
        have how : ¬ o = w := fun c => by rw [c] at ho1; exact h ho1
        constructor
        · funext j
          unfold upd
          by_cases e1 : j = u
          · rw [if_pos e1, e1, cu]
          · rw [if_neg e1]
            by_cases e2 : j = t
            · rw [if_pos e2, e2, ho1]
            · rw [if_neg e2, if_neg e2, if_neg e1]
        · funext j
          unfold upd
          by_cases e1 : j = w
          · rw [if_pos e1, e1, hu1]
          · rw [if_neg e1]
            by_cases e2 : j = o
            · rw [if_pos e2, e2, co]
            · rw [if_neg e2, if_neg e1, if_neg e2])
      rw [S67] at key
      exact key
  · have h : ¬ ¬ σ 26 (nI t).toNatClampNeg = nI w := h
    rw [et] at h
    exact Classical.not_not.mp h
  · have h : ¬ ¬ σ 26 (nI t).toNatClampNeg = nI w := h
    rw [et] at h
    rcases hl s hs (by omega) v hv e with q | q
    · exact q
    · exfalso
      rw [q] at e
      have := hMI.inj hs ht hw e (Classical.not_not.mp h)
      omega
