/-! contracts by a parameter: the arguments are A x -/
def dk_sp (n : Nat) (b : Bool) {X : Type} (A : X → List dk_V) (P : X → dk_S → Prop) (Q : X → dk_S → Int32 → dk_S → Prop) : dk_M :=
  (n, b, fun as σ => ∃ x, as = A x ∧ P x σ, fun as σ r σ' => ∀ x, as = A x → Q x σ r σ')
theorem dk_sp_pure {G : dk_G} {n : Nat} {b : Bool} {X : Type} {A : X → List dk_V} {P : X → dk_S → Prop} {Q : X → dk_S → Int32 → dk_S → Prop} (hinj : ∀ x x', A x = A x' → x = x') (hlen : ∀ x, (A x).length = n)
    (h : ∀ (OK : Nat → dk_L → List dk_V → dk_S → Prop) (x : X) (σ : dk_S), P x σ → dk_ok G (fun r σ' => Q x σ r σ') OK → OK 0 (dk_ent 0 (A x)) [] σ) : dk_pure G (dk_sp n b A P Q) := by
  intro OK as σ hpre hC
  obtain ⟨x, rfl, hP⟩ := hpre
  refine ⟨hlen x, h OK x σ hP ?_⟩
  have e : (fun (r : Int32) (σ' : dk_S) => Q x σ r σ') = fun r σ' => (dk_sp n b A P Q).2.2.2 (A x) σ r σ' := by
    funext r σ'
    apply propext
    exact ⟨fun q x' e => by rw [← hinj x x' e]; exact q, fun q => q x rfl⟩
  rw [e]
  exact hC
theorem dk_cs {n : Nat} {b : Bool} {X : Type} {A : X → List dk_V} {P : X → dk_S → Prop} {Q : X → dk_S → Int32 → dk_S → Prop} {st : List dk_V} {σ : dk_S} {K : List dk_V → dk_S → Prop} (x : X) (h1 : Nat.ble n st.length = true) (h2 : Nat.ble st.length (n + 8) = true) (he : (st.take n).reverse = A x) (hP : P x σ)
    (hk : ∀ (r : Int32) (σ' : dk_S), Q x σ r σ' → K (match b with | true => .inl r :: st.drop n | false => st.drop n) σ') : dk_call (dk_sp n b A P Q) st σ K := ⟨Nat.le_of_ble_eq_true h1, Nat.le_of_ble_eq_true h2, ⟨x, he, hP⟩, fun r σ' h => hk r σ' (h x he)⟩
theorem dk_up_ne {σ : dk_S} {k q : Nat} {f : Nat → Int32} (h : ¬ q = k) : dk_up σ k f q = σ q := by simp [dk_up, h]
theorem dk_up_up {σ : dk_S} {k : Nat} {f g : Nat → Int32} : dk_up (dk_up σ k f) k g = dk_up σ k g := by
  funext q
  by_cases h : q = k <;> simp [dk_up, h]
theorem dk_up_id {σ : dk_S} {k : Nat} : dk_up σ k (σ k) = σ := by
  funext q
  by_cases h : q = k <;> simp [dk_up, h]
/-- one int only: what a boolean answer is -/
def dk_b (p : Prop) [Decidable p] : Int32 := if p then 1 else 0
theorem dk_b01 (p : Prop) [Decidable p] : dk_b p = 0 ∨ dk_b p = 1 := by unfold dk_b; split <;> simp
theorem dk_bm {n : Int} (h1 : -2147483648 ≤ n) (h2 : n < 2147483648) : n.bmod (2 ^ 32) = n := by
  rw [Int.bmod_def]; omega
theorem dk_add {x y : Int32} (h1 : -2147483648 ≤ x.toInt + y.toInt) (h2 : x.toInt + y.toInt < 2147483648) : (x + y).toInt = x.toInt + y.toInt := by rw [Int32.toInt_add, dk_bm h1 h2]
theorem dk_sub {x y : Int32} (h1 : -2147483648 ≤ x.toInt - y.toInt) (h2 : x.toInt - y.toInt < 2147483648) : (x - y).toInt = x.toInt - y.toInt := by rw [Int32.toInt_sub, dk_bm h1 h2]
theorem dk_lt {x y : Int32} : x < y ↔ x.toInt < y.toInt := Int32.lt_iff_toInt_lt
theorem dk_le {x y : Int32} : x ≤ y ↔ x.toInt ≤ y.toInt := Int32.le_iff_toInt_le
theorem dk_eq {x y : Int32} : x = y ↔ x.toInt = y.toInt := ⟨fun h => by rw [h], fun h => Int32.toInt_inj.mp h⟩
theorem dk_rng (x : Int32) : -2147483648 ≤ x.toInt ∧ x.toInt < 2147483648 := ⟨Int32.le_toInt x, Int32.toInt_lt x⟩
theorem dk_up_comm {σ : dk_S} {k q : Nat} {c f : Nat → Int32} (h : ¬ k = q) : dk_up (dk_up σ k c) q f = dk_up (dk_up σ q f) k c := by
  funext j
  unfold dk_up
  by_cases h1 : j = q
  · rw [if_pos h1, if_neg (fun e => h (e.symm.trans h1)), if_pos h1]
  · rw [if_neg h1, if_neg h1]
