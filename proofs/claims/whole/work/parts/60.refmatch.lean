/-! the reference's changes, grows -/
/-- workers' tasks: skilled, and of the free ones; no task twice -/
def WK (sk : Nat → Int32) (fr : Int32) (wh : Nat → Int32) : Prop := (∀ w, w < 16 → wh w = -1 ∨ ∃ s, s < 30 ∧ wh w = nI s ∧ bt (sk s) w = true ∧ bt fr w = true) ∧ ∀ w w', w < 16 → w' < 16 → wh w = wh w' → ¬ wh w = -1 → w = w'
def hd (wh : Nat → Int32) (s : Nat) : Prop := ∃ w, w < 16 ∧ wh w = nI s
/-- the search from the task rt -/
def BG (sk : Nat → Int32) (fr : Int32) (wh bk : Nat → Int32) (rt : Nat) (S : Nat → Prop) (fp qt : Nat → Nat) (q : Nat) : Prop :=
  (∀ i, i < q → qt i < 30) ∧ (∀ i j, i < q → j < q → qt i = qt j → i = j) ∧ (0 < q ∧ qt 0 = rt) ∧
  (∀ w, w < 16 → S w → bk w = nI (qt (fp w)) ∧ fp w < q ∧ bt (sk (qt (fp w))) w = true ∧ bt fr w = true) ∧
  (∀ i, 0 < i → i < q → ∃ w, w < 16 ∧ wh w = nI (qt i) ∧ S w ∧ fp w < i) ∧
  WK sk fr wh ∧ ∀ w, w < 16 → ¬ wh w = nI rt
def chg (σ : dk_S) (fr : Int32) (S : Nat → Prop) (fp qt : Nat → Nat) (q d rt : Nat) : Prop := BG (σ 36) fr (σ 46) (σ 47) rt S fp qt q ∧ d < 16 ∧ S d ∧ σ 46 d = -1
/-- workers on the way back -/
def CHm (σ : dk_S) (d rt w : Nat) : Prop := ∀ P : Nat → Prop, P d → (∀ w a w', P w → a < 30 → w < 16 → w' < 16 → σ 47 w = nI a → ¬ a = rt → σ 46 w' = nI a → P w') → P w
theorem CHm.in {σ : dk_S} {fr : Int32} {S : Nat → Prop} {fp qt : Nat → Nat} {q d rt : Nat} (h : chg σ fr S fp qt q d rt) {w : Nat} (hc : CHm σ d rt w) : w < 16 ∧ S w := by
  obtain ⟨⟨b1, b2, b3, b4, b5, b6, b7⟩, h1, h2, h3⟩ := h
  refine hc (fun w => w < 16 ∧ S w) ⟨h1, h2⟩ ?_
  rintro w a w' ⟨q1, q2⟩ ha hw hw' e1 e2 e3
  obtain ⟨c1, c2, c3, c4⟩ := b4 w q1 q2
  have h30 := b1 _ c2
  rw [e1, nI_eq (by omega) (by omega)] at c1
  have hpos : 0 < fp w := by
    apply Nat.pos_of_ne_zero
    intro c
    rw [c, b3.2] at c1
    exact e2 c1
  obtain ⟨v, hv, r1, r2, -⟩ := b5 (fp w) hpos c2
  rw [← c1] at r1
  have := b6.2 w' v hw' hv (by rw [e3, r1]) (by rw [e3]; exact nI_m1 (by omega))
  rw [this]
  exact ⟨hv, r2⟩
abbrev sp_changes : dk_M := dk_sp 3 false (fun x : Int32 × Int32 => [.inr 30, .inl x.1, .inl x.2]) (fun x σ => ∃ fr S fp qt q d rt, x = (nI d, nI rt) ∧ chg σ fr S fp qt q d rt)
  (fun x σ _ σ' => ∃ wh', σ' = dk_up σ 46 wh' ∧ ∀ fr S fp qt q d rt, x = (nI d, nI rt) → chg σ fr S fp qt q d rt → WK (σ 36) fr wh' ∧ (∀ s, s < 30 → (hd wh' s ↔ hd (σ 46) s ∨ s = rt)) ∧ ∀ w, w < 16 → wh' w = σ 46 w ∨ CHm σ d rt w)
set_option maxRecDepth 100000 in
set_option maxHeartbeats 4000000 in
theorem q_changes : dk_pure (kX7_changes, fX7, [], [], nX7, 8, false) sp_changes := by
  refine dk_sp_pure (fun x x' e => by obtain ⟨a, b⟩ := x; obtain ⟨a', b'⟩ := x'; cases e; rfl) (fun _ => rfl) ?_
  rintro OK x σ ⟨fr0, S0, fp0, qt0, q0, d, rt, rfl, hch⟩ hC
  have hch0 := hch
  obtain ⟨⟨b1, b2, b3, b4, b5, b6, b7⟩, hd16, hSd, hd1⟩ := hch
  have hrt : rt < 30 := by rw [← b3.2]; exact b1 0 b3.1
  have inner : ∀ (w : Nat) (wh' : Nat → Int32) (a : Nat), w < 16 → a < 30 → (∀ y y', y < 16 → y' < 16 → wh' y = nI a → wh' y' = nI a → y = y') →
      (∀ old : Int32, (∀ y, y < 16 → wh' y = nI a → old = nI y) → OK 58 [(0, .inr 30), (1, .inl (nI d)), (2, .inl (nI rt)), (3, .inl (nI w)), (4, .inl 1), (5, .inl (nI a)), (6, .inl old)] [] (dk_up σ 46 wh')) →
      ∀ (g x : Nat) (old : Int32), x + g = 16 → (∀ y, y < x → wh' y = nI a → old = nI y) → OK 24 [(0, .inr 30), (1, .inl (nI d)), (2, .inl (nI rt)), (3, .inl (nI w)), (4, .inl 1), (5, .inl (nI a)), (6, .inl old), (7, .inl (nI x))] [] (dk_up σ 46 wh') := by
    intro w wh' a hw ha hinj hK g
    induction g with
    | zero =>
      intro x old hx hI
      have hx : x = 16 := by omega
      subst hx
      refine hC.go (fun q => if q = 58 then some 7 else none) 60 ?_
      exact ⟨fun _ => hK old hI, fun h => absurd (show nI 16 ≤ nI 16 by decide) h⟩
    | succ g ih =>
      intro x old hx hI
      have ex : (nI x).toNatClampNeg = x := nI_clamp (by omega)
      have at50 : ∀ z : Int32, (∀ y, y < x + 1 → wh' y = nI a → z = nI y) → OK 50 [(0, .inr 30), (1, .inl (nI d)), (2, .inl (nI rt)), (3, .inl (nI w)), (4, .inl 1), (5, .inl (nI a)), (6, .inl old), (7, .inl (nI x))] [.inl z] (dk_up σ 46 wh') := by
        intro z hz
        refine hC.go (fun q => if q = 24 then some 8 else none) 60 ?_
        refine ⟨by decide, by decide, ?_⟩
        have key := ih (x + 1) z (by omega) hz
        rw [← nI_1 x] at key
        exact key
      refine hC.go (fun q => if q = 50 then some 8 else none) 60 ?_
      refine ⟨fun h => ?_, fun _ => ⟨16, rfl, vp_in_nI (by omega) (by omega), fun h => at50 _ ?_, fun h => at50 _ ?_⟩⟩
      · exfalso
        have h : nI 16 ≤ nI x := h
        rw [nI_leI (by omega) (by omega)] at h
        omega
      · have h : ¬ wh' (nI x).toNatClampNeg = nI a := h
        rw [ex] at h
        intro y hy e
        by_cases c : y = x
        · rw [c] at e; exact absurd e h
        · exact hI y (by omega) e
      · have h : ¬ ¬ wh' (nI x).toNatClampNeg = nI a := h
        rw [ex] at h
        intro y hy e
        rw [hinj y x (by omega) (by omega) e (Classical.not_not.mp h)]
  have loop : ∀ (n w : Nat) (wh' : Nat → Int32), w < 16 → S0 w → fp0 w ≤ n → wh' w = -1 → (∀ y y', y < 16 → y' < 16 → wh' y = wh' y' → ¬ wh' y = -1 → y = y') → (∀ s, s < 30 → (hd wh' s ↔ hd (σ 46) s)) → (∀ y, y < 16 → wh' y = -1 ∨ ∃ s, s < 30 ∧ wh' y = nI s) →
      (∀ j, 0 < j → j ≤ fp0 w → ∀ v, v < 16 → σ 46 v = nI (qt0 j) → wh' v = nI (qt0 j)) → CHm σ d rt w → (∀ y, y < 16 → wh' y = σ 46 y ∨ (CHm σ d rt y ∧ (wh' y = -1 ∨ ∃ a, a < 30 ∧ σ 47 y = nI a ∧ wh' y = nI a))) →
      OK 5 [(0, .inr 30), (1, .inl (nI d)), (2, .inl (nI rt)), (3, .inl (nI w)), (4, .inl 1)] [] (dk_up σ 46 wh') := by
    intro n
    induction n using Nat.strongRecOn with
    | ind n ihn =>
    intro w wh' hw hS hfn hw1 hinj hhd hval hold hCH hF
    obtain ⟨c1, c2, c3, c4⟩ := b4 w hw hS
    obtain ⟨a, ha⟩ : ∃ a, a = qt0 (fp0 w) := ⟨_, rfl⟩
    rw [← ha] at c1 c3
    have ha30 : a < 30 := by rw [ha]; exact b1 _ c2
    have ew : (nI w).toNatClampNeg = w := nI_clamp (by omega)
    have hiw : vp_in (nI w) 16 := vp_in_nI hw (by omega)
    have hinja : ∀ y y', y < 16 → y' < 16 → wh' y = nI a → wh' y' = nI a → y = y' := fun y y' h1 h2 e1 e2 => hinj y y' h1 h2 (by rw [e1, e2]) (by rw [e1]; exact nI_m1 (by omega))
    have e47 : dk_up σ 46 wh' 47 (nI w).toNatClampNeg = nI a := by rw [ew]; exact c1
    refine hC.go (fun q => if q = 24 then some 8 else none) 60 ?_
    refine ⟨fun q => absurd q i32_ne10, fun _ => ⟨16, rfl, hiw, by decide, by decide, by decide, ?_⟩⟩
    show OK 24 [(0, .inr 30), (1, .inl (nI d)), (2, .inl (nI rt)), (3, .inl (nI w)), (4, .inl 1), (5, .inl (dk_up σ 46 wh' 47 (nI w).toNatClampNeg)), (6, .inl (-1)), (7, .inl (nI 0))] [] (dk_up σ 46 wh')
    rw [e47]
    refine inner w wh' a hw ha30 hinja (fun old hold' => ?_) 16 0 (-1) (by omega) (fun y hy => by omega)
    -- the pair
    obtain ⟨wh1, hwh1⟩ : ∃ wh1, wh1 = upd wh' w (nI a) := ⟨_, rfl⟩
    have u1 : wh1 w = nI a := by rw [hwh1]; unfold upd; rw [if_pos rfl]
    have u2 : ∀ y, ¬ y = w → wh1 y = wh' y := fun y hy => by rw [hwh1]; unfold upd; rw [if_neg hy]
    have est : dk_up (dk_up σ 46 wh') 46 (upd wh' (nI w).toNatClampNeg (nI a)) = dk_up σ 46 wh1 := by rw [dk_up_up, ew, hwh1]
    refine hC.go (fun q => if q = 5 then some 5 else none) 60 ?_
    refine ⟨16, rfl, hiw, fun h => ?_, fun h => ?_⟩
    · -- the root
      have h : nI a = nI rt := h
      rw [nI_eq (by omega) (by omega)] at h
      refine ⟨by decide, fun _ => ?_, fun q => absurd rfl q⟩
      show OK 5 [(0, .inr 30), (1, .inl (nI d)), (2, .inl (nI rt)), (3, .inl (nI w)), (4, .inl 0)] [] (dk_up (dk_up σ 46 wh') 46 (upd wh' (nI w).toNatClampNeg (nI a)))
      rw [est]
      refine hC.go (fun _ => none) 60 ?_
      refine ⟨fun _ => ⟨wh1, rfl, fun fr S fp qt q d' rt' hx hch' => ?_⟩, fun q => absurd rfl q⟩
      have x1 : nI d = nI d' := congrArg Prod.fst hx
      have x2 : nI rt = nI rt' := congrArg Prod.snd hx
      have hch'' := hch'
      obtain ⟨⟨a1, a2, a3, a4, a5, a6, a7⟩, hd', -, -⟩ := hch'
      have hrt' : rt' < 30 := by rw [← a3.2]; exact a1 0 a3.1
      rw [nI_eq (by omega) (by omega)] at x1 x2
      subst x1
      subst x2
      have noa : ∀ y, y < 16 → ¬ wh' y = nI a := fun y hy e => by
        have : hd (σ 46) a := (hhd a ha30).mp ⟨y, hy, e⟩
        obtain ⟨v, hv, e2⟩ := this
        rw [h] at e2
        exact b7 v hv e2
      refine ⟨⟨fun y hy => ?_, fun y y' hy hy' e hne => ?_⟩, fun s hs => ?_, fun y hy => ?_⟩
      · by_cases c : y = w
        · subst c
          obtain ⟨-, hSw⟩ := CHm.in hch'' hCH
          obtain ⟨g1, g2, g3, g4⟩ := a4 y hy hSw
          have g30 := a1 _ g2
          rw [c1, nI_eq (by omega) (by omega)] at g1
          rw [← g1] at g3
          exact Or.inr ⟨a, ha30, u1, g3, g4⟩
        · rw [u2 y c]
          rcases hF y hy with q | ⟨q1, q2⟩
          · rw [q]; exact a6.1 y hy
          · rcases q2 with q2 | ⟨b, hb, q3, q4⟩
            · exact Or.inl q2
            · right
              obtain ⟨-, hSw⟩ := CHm.in hch'' q1
              obtain ⟨g1, g2, g3, g4⟩ := a4 y hy hSw
              have g30 := a1 _ g2
              rw [q3, nI_eq (by omega) (by omega)] at g1
              rw [← g1] at g3
              exact ⟨b, hb, q4, g3, g4⟩
      · by_cases c : y = w <;> by_cases c' : y' = w
        · rw [c, c']
        · rw [c, u1, u2 y' c'] at e; exact absurd e.symm (noa y' hy')
        · rw [c', u1, u2 y c] at e; exact absurd e (noa y hy)
        · rw [u2 y c, u2 y' c'] at e
          rw [u2 y c] at hne
          exact hinj y y' hy hy' e hne
      · constructor
        · rintro ⟨y, hy, e⟩
          by_cases c : y = w
          · rw [c, u1, nI_eq (by omega) (by omega)] at e
            exact Or.inr (by omega)
          · rw [u2 y c] at e
            exact Or.inl ((hhd s hs).mp ⟨y, hy, e⟩)
        · rintro (q | q)
          · obtain ⟨y, hy, e⟩ := (hhd s hs).mpr q
            refine ⟨y, hy, ?_⟩
            rw [u2 y (fun c => by rw [c, hw1] at e; exact nI_m1 (by omega) e.symm)]
            exact e
          · exact ⟨w, hw, by rw [u1, q, h]⟩
      · by_cases c : y = w
        · subst c; exact Or.inr hCH
        · rw [u2 y c]
          rcases hF y hy with q | ⟨q, -⟩
          · exact Or.inl q
          · exact Or.inr q
    · -- one step back
      have h : ¬ nI a = nI rt := h
      rw [nI_eq (by omega) (by omega)] at h
      have hpos : 0 < fp0 w := by
        apply Nat.pos_of_ne_zero
        intro c
        rw [c, b3.2] at ha
        exact h ha
      obtain ⟨v, hv, v1, v2, v3⟩ := b5 (fp0 w) hpos c2
      have v1' : σ 46 v = nI a := by rw [ha]; exact v1
      have hv' : wh' v = nI a := by rw [ha]; exact hold (fp0 w) hpos (Nat.le_refl _) v hv v1
      have hov := hold' v hv hv'
      subst hov
      have ev : (nI v).toNatClampNeg = v := nI_clamp (by omega)
      have hvw : ¬ v = w := fun c => by rw [c, hw1] at hv'; exact nI_m1 (by omega) hv'.symm
      refine ⟨by decide, fun q => absurd q i32_ne10, fun _ => ⟨16, rfl, vp_in_nI hv (by omega), by decide, ?_⟩⟩
      obtain ⟨wh2, hwh2⟩ : ∃ wh2, wh2 = upd wh1 v (-1) := ⟨_, rfl⟩
      have w1 : wh2 v = -1 := by rw [hwh2]; unfold upd; rw [if_pos rfl]
      have w2 : ∀ y, ¬ y = v → wh2 y = wh1 y := fun y hy => by rw [hwh2]; unfold upd; rw [if_neg hy]
      show OK 5 [(0, .inr 30), (1, .inl (nI d)), (2, .inl (nI rt)), (3, .inl (nI v)), (4, .inl 1)] [] (dk_up (dk_up (dk_up σ 46 wh') 46 (upd wh' (nI w).toNatClampNeg (nI a))) 46 (upd (upd wh' (nI w).toNatClampNeg (nI a)) (nI v).toNatClampNeg (-1)))
      have est2 : dk_up (dk_up (dk_up σ 46 wh') 46 (upd wh' (nI w).toNatClampNeg (nI a))) 46 (upd (upd wh' (nI w).toNatClampNeg (nI a)) (nI v).toNatClampNeg (-1)) = dk_up σ 46 wh2 := by rw [dk_up_up, dk_up_up, ew, ev, hwh2, hwh1]
      rw [est2]
      have hCHv : CHm σ d rt v := fun P h0 hs => hs w a v (hCH P h0 hs) ha30 hw hv c1 h v1'
      have onlyv : ∀ y, y < 16 → wh' y = nI a → y = v := fun y hy e => hinja y v hy hv e hv'
      refine ihn (fp0 v) (by omega) v wh2 hv v2 (Nat.le_refl _) w1 (fun y y' hy hy' e hne => ?_) (fun s hs => ?_) (fun y hy => ?_) (fun j hj hjv x hx e => ?_) hCHv (fun y hy => ?_)
      · have hyv : ¬ y = v := fun c => by rw [c] at hne; exact hne w1
        have hyv' : ¬ y' = v := fun c => by rw [c, w1] at e; exact hne e
        rw [w2 y hyv] at e hne
        rw [w2 y' hyv'] at e
        by_cases c : y = w <;> by_cases c' : y' = w
        · rw [c, c']
        · rw [c, u1, u2 y' c'] at e
          exact absurd (onlyv y' hy' e.symm) hyv'
        · rw [c', u1, u2 y c] at e
          exact absurd (onlyv y hy e) hyv
        · rw [u2 y c] at e hne
          rw [u2 y' c'] at e
          exact hinj y y' hy hy' e hne
      · rw [← hhd s hs]
        constructor
        · rintro ⟨y, hy, e⟩
          have hyv : ¬ y = v := fun c => by rw [c, w1] at e; exact nI_m1 (by omega) e.symm
          rw [w2 y hyv] at e
          by_cases c : y = w
          · rw [c, u1] at e
            exact ⟨v, hv, by rw [hv', e]⟩
          · rw [u2 y c] at e; exact ⟨y, hy, e⟩
        · rintro ⟨y, hy, e⟩
          by_cases c : y = v
          · refine ⟨w, hw, ?_⟩
            rw [w2 w (fun q => hvw q.symm), u1, ← hv', ← c]; exact e
          · refine ⟨y, hy, ?_⟩
            rw [w2 y c, u2 y (fun q => by rw [q, hw1] at e; exact nI_m1 (by omega) e.symm)]
            exact e
      · by_cases c : y = v
        · rw [c]; exact Or.inl w1
        · rw [w2 y c]
          by_cases c' : y = w
          · rw [c']; exact Or.inr ⟨a, ha30, u1⟩
          · rw [u2 y c']; exact hval y hy
      · have hx' := hold j hj (by omega) x hx e
        have hxv : ¬ x = v := fun c => by
          rw [c, v1'] at e
          have e3 : a = qt0 j := by rw [nI_eq (by omega) (by have := b1 j (by omega); omega)] at e; exact e
          rw [ha] at e3
          have := b2 _ _ c2 (by omega) e3
          omega
        rw [w2 x hxv, u2 x (fun q => by rw [q, hw1] at hx'; exact nI_m1 (by have := b1 j (by omega); omega) hx'.symm)]
        exact hx'
      · by_cases c : y = v
        · rw [c]; exact Or.inr ⟨hCHv, Or.inl w1⟩
        · rw [w2 y c]
          by_cases c' : y = w
          · rw [c']; exact Or.inr ⟨hCH, Or.inr ⟨a, ha30, c1, u1⟩⟩
          · rw [u2 y c']; exact hF y hy
  refine hC.go (fun q => if q = 5 then some 5 else none) 60 ?_
  refine ⟨by decide, by decide, ?_⟩
  have key := loop (fp0 d) d (σ 46) hd16 hSd (Nat.le_refl _) hd1 b6.2 (fun s _ => Iff.rfl) (fun y hy => by
    rcases b6.1 y hy with q | ⟨s, hs, e, -⟩
    · exact Or.inl q
    · exact Or.inr ⟨s, hs, e⟩) (fun j _ _ v _ e => e) (fun P h0 _ => h0) (fun y _ => Or.inl rfl)
  rw [dk_up_id] at key
  exact key
/-- the cells that grows writes -/
def S3 (σ : dk_S) (a b c : Nat → Int32) : dk_S := dk_up (dk_up (dk_up σ 46 a) 47 b) 48 c
abbrev sp_grows : dk_M := dk_sp 3 true (fun x : Int32 × Int32 => [.inr 30, .inl x.1, .inl x.2]) (fun x σ => ∃ t, t < 30 ∧ x.1 = nI t ∧ WK (σ 36) x.2 (σ 46) ∧ ¬ hd (σ 46) t)
  (fun x σ r σ' => ∀ t, t < 30 → x.1 = nI t → ∃ wh' bk wa, σ' = S3 σ wh' bk wa ∧ WK (σ 36) x.2 wh' ∧
    ((r = 1 ∧ (∀ s, s < 30 → (hd wh' s ↔ hd (σ 46) s ∨ s = t)) ∧ ∀ Z X : Nat → Prop, ¬ Z t → (∀ s w, s < 30 → w < 16 → Z s → bt (σ 36 s) w = true → bt x.2 w = true → X w) → (∀ w, w < 16 → X w → ∃ s, s < 30 ∧ Z s ∧ σ 46 w = nI s) → ∀ w, w < 16 → X w → wh' w = σ 46 w) ∨
     (r = 0 ∧ wh' = σ 46 ∧ ∃ R Y : Nat → Prop, R t ∧ (∀ s, R s → s = t ∨ hd (σ 46) s) ∧ (∀ s w, s < 30 → w < 16 → R s → bt (σ 36 s) w = true → bt x.2 w = true → Y w) ∧ ∀ w, w < 16 → Y w → ∃ s, s < 30 ∧ R s ∧ σ 46 w = nI s)))
theorem BG.q30 {sk : Nat → Int32} {fr : Int32} {wh bk : Nat → Int32} {rt : Nat} {S : Nat → Prop} {fp qt : Nat → Nat} {q : Nat} (h : BG sk fr wh bk rt S fp qt q) : q ≤ 30 := by
  have h1 : cp (fun _ => True) q ≤ cp (fun _ => True) 30 := cp_inj (f := qt) (fun i hi _ => ⟨h.1 i hi, trivial⟩) (fun i j hi hj _ _ e => h.2.1 i j hi hj e)
  have h2 : ∀ n, cp (fun _ => True) n = n := by
    intro n
    induction n with
    | zero => rfl
    | succ n ih => rw [cp_succ_pos trivial, ih]
  rw [h2, h2] at h1
  exact h1
