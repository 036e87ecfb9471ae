/-! bits of an Int32, and Integer.bitCount -/
def bt (x : Int32) (i : Nat) : Bool := x.toBitVec.getLsbD i
theorem b_ext {x y : Int32} (h : ∀ i, i < 32 → bt x i = bt y i) : x = y := Int32.toBitVec_inj.mp (BitVec.eq_of_getLsbD_eq (fun i hi => h i hi))
theorem b_or (x y : Int32) (i : Nat) : bt (x ||| y) i = (bt x i || bt y i) := by unfold bt; rw [Int32.toBitVec_or, BitVec.getLsbD_or]
theorem b_and (x y : Int32) (i : Nat) : bt (x &&& y) i = (bt x i && bt y i) := by unfold bt; rw [Int32.toBitVec_and, BitVec.getLsbD_and]
theorem b_xor (x y : Int32) (i : Nat) : bt (x ^^^ y) i = (bt x i ^^ bt y i) := by unfold bt; rw [Int32.toBitVec_xor, BitVec.getLsbD_xor]
theorem b_big {x : Int32} {i : Nat} (h : 32 ≤ i) : bt x i = false := BitVec.getLsbD_of_ge _ _ h
theorem b_m1 : ∀ i, i < 32 → bt (-1) i = true := by decide +kernel
theorem b_0 (i : Nat) : bt 0 i = false := BitVec.getLsbD_zero
theorem s_l : ∀ n, n < 32 → ((nI n &&& 31).toBitVec.smod 32).toNat = n := by decide +kernel
theorem s_u : ∀ n, n < 32 → (((nI n).toUInt32 &&& Int32.toUInt32 31).toBitVec % 32).toNat = n := by decide +kernel
theorem b_shl (n : Nat) (hn : n < 32) (x : Int32) {i : Nat} (hi : i < 32) : bt (x <<< (nI n &&& 31)) i = (decide (n ≤ i) && bt x (i - n)) := by
  unfold bt
  rw [Int32.toBitVec_shiftLeft]
  show (x.toBitVec <<< ((nI n &&& 31).toBitVec.smod 32).toNat).getLsbD i = _
  rw [s_l n hn, BitVec.getLsbD_shiftLeft]
  rcases Nat.lt_or_ge i n with h | h
  · simp [h, Nat.not_le.mpr h]
  · simp [hi, h, Nat.not_lt.mpr h]
theorem b_sshr (n : Nat) (hn : n < 32) (x : Int32) {i : Nat} (hi : i < 32) : bt (x >>> (nI n &&& 31)) i = if n + i < 32 then bt x (n + i) else bt x 31 := by
  unfold bt
  rw [Int32.toBitVec_shiftRight]
  show (x.toBitVec.sshiftRight ((nI n &&& 31).toBitVec.smod 32).toNat).getLsbD i = _
  rw [s_l n hn, BitVec.getLsbD_sshiftRight, BitVec.msb_eq_getLsbD_last]
  simp [hi]
theorem b_1 : ∀ i, i < 32 → bt 1 i = decide (i = 0) := by decide +kernel
/-- 1 shifted -/
theorem b_bit {n i : Nat} (hn : n < 32) (hi : i < 32) : bt ((1 : Int32) <<< (nI n &&& 31)) i = decide (i = n) := by
  rw [b_shl n hn 1 hi]
  by_cases h : n ≤ i
  · rw [b_1 (i - n) (by omega)]
    by_cases e : i = n
    · subst e; simp
    · simp [h, e]; omega
  · have : ¬ i = n := by omega
    simp [h, this]
/-- a bit, as the machine asks for it -/
theorem b_get {n : Nat} (hn : n < 32) (x : Int32) : (x >>> (nI n &&& 31)) &&& 1 = if bt x n = true then 1 else 0 := by
  apply b_ext
  intro i hi
  rw [b_and, b_1 i hi]
  by_cases e : i = 0
  · subst e
    rw [b_sshr n hn x (by omega)]
    simp only [Nat.add_zero, if_pos hn, decide_true, Bool.and_true]
    split
    · next h => rw [h]; rfl
    · next h => rw [Bool.not_eq_true] at h; rw [h]; exact (b_0 0).symm
  · simp only [e, decide_false, Bool.and_false]
    split
    · rw [b_1 i hi, decide_eq_false e]
    · exact (b_0 i).symm
/-- how many of the first n hold -/
def cn (p : Nat → Bool) : Nat → Nat
  | 0 => 0
  | n + 1 => cn p n + (if p n = true then 1 else 0)
theorem cn_congr {p q : Nat → Bool} : ∀ {n : Nat}, (∀ i, i < n → p i = q i) → cn p n = cn q n := by
  intro n
  induction n with
  | zero => intro _; rfl
  | succ n ih =>
    intro h
    simp only [cn]
    rw [ih (fun i hi => h i (by omega)), h n (by omega)]
theorem cn_le (p : Nat → Bool) : ∀ n : Nat, cn p n ≤ n := by
  intro n
  induction n with
  | zero => exact Nat.le_refl _
  | succ n ih => simp only [cn]; split <;> omega
theorem cn_mono {p q : Nat → Bool} : ∀ {n : Nat}, (∀ i, i < n → p i = true → q i = true) → cn p n ≤ cn q n := by
  intro n
  induction n with
  | zero => intro _; exact Nat.le_refl _
  | succ n ih =>
    intro h
    have h1 := ih (fun i hi => h i (by omega))
    have h2 := h n (by omega)
    simp only [cn]
    by_cases e : p n = true
    · rw [if_pos e, if_pos (h2 e)]; omega
    · rw [if_neg e]; omega
theorem cn_lt {p q : Nat → Bool} {k : Nat} : ∀ {n : Nat}, (∀ i, i < n → p i = true → q i = true) → k < n → q k = true → ¬ p k = true → cn p n < cn q n := by
  intro n
  induction n with
  | zero => intro _ h; omega
  | succ n ih =>
    intro h hk hq hp
    simp only [cn]
    by_cases e : k = n
    · subst e
      have h1 := cn_mono (p := p) (q := q) (n := k) (fun i hi => h i (by omega))
      rw [if_neg hp, if_pos hq]; omega
    · have h1 := ih (fun i hi => h i (by omega)) (by omega) hq hp
      have h2 := h n (by omega)
      by_cases e2 : p n = true
      · rw [if_pos e2, if_pos (h2 e2)]; omega
      · rw [if_neg e2]; omega
theorem cn_zero {p : Nat → Bool} : ∀ {n : Nat}, cn p n = 0 → ∀ i, i < n → ¬ p i = true := by
  intro n
  induction n with
  | zero => intro _ i h; omega
  | succ n ih =>
    intro h i hi
    simp only [cn] at h
    by_cases e : i = n
    · subst e
      intro q
      rw [if_pos q] at h
      omega
    · exact ih (by omega) i (by omega)
theorem cn_more {p : Nat → Bool} {n : Nat} : ∀ {k : Nat}, (∀ i, n ≤ i → i < n + k → ¬ p i = true) → cn p (n + k) = cn p n := by
  intro k
  induction k with
  | zero => intro _; rfl
  | succ k ih =>
    intro h
    show cn p (n + k) + (if p (n + k) = true then 1 else 0) = _
    rw [if_neg (h (n + k) (by omega) (by omega)), ih (fun i h1 h2 => h i h1 (by omega))]
    rfl
def bn (b : Bool) : Nat := if b = true then 1 else 0
theorem bn_le (b : Bool) : bn b ≤ 1 := by unfold bn; split <;> omega
/-- a word is the sum of its bits -/
theorem bv_sum (x : BitVec 32) : ∀ n, n ≤ 32 → x.toNat % 2 ^ n = su_N (fun i => bn (x.getLsbD i) * 2 ^ i) n := by
  intro n
  induction n with
  | zero => intro _; simp [su_N, Nat.mod_one]
  | succ n ih =>
    intro hn
    show _ = su_N _ n + _
    rw [← ih (by omega), Nat.mod_pow_succ]
    congr 1
    rw [Nat.mul_comm]
    congr 1
    unfold bn BitVec.getLsbD
    rw [Nat.testBit_eq_decide_div_mod_eq]
    have : x.toNat / 2 ^ n % 2 = 0 ∨ x.toNat / 2 ^ n % 2 = 1 := by omega
    rcases this with h | h <;> simp [h]
theorem bv_sum32 (x : BitVec 32) : x.toNat = su_N (fun i => bn (x.getLsbD i) * 2 ^ i) 32 := by
  rw [← bv_sum x 32 (Nat.le_refl _), Nat.mod_eq_of_lt x.isLt]
/-- by bytes -/
theorem nl_and {q M b m : Nat} (hb : b < 256) (hm : m < 256) : (256 * q + b) &&& (256 * M + m) = 256 * (q &&& M) + (b &&& m) := by
  have h1 := Nat.and_mod_two_pow (a := 256 * q + b) (b := 256 * M + m) (n := 8)
  have h2 := Nat.and_div_two_pow (a := 256 * q + b) (b := 256 * M + m) (n := 8)
  rw [show (256 * q + b) % 2 ^ 8 = b by omega, show (256 * M + m) % 2 ^ 8 = m by omega] at h1
  rw [show (256 * q + b) / 2 ^ 8 = q by omega, show (256 * M + m) / 2 ^ 8 = M by omega] at h2
  omega
def sw1 (n M : Nat) : Nat := n - (n / 2 &&& M)
def sw2 (n M : Nat) : Nat := (n &&& M) + (n / 4 &&& M)
def sw3 (n M : Nat) : Nat := (n + n / 16) &&& M
theorem sw1_b : ∀ b, b < 256 → ∀ c, c < 2 → (128 * c + b / 2) &&& 85 = b / 2 &&& 85 := by decide +kernel
theorem sw2_b : ∀ b, b < 256 → ∀ c, c < 4 → (64 * c + b / 4) &&& 51 = b / 4 &&& 51 := by decide +kernel
theorem sw1_r {q M b : Nat} (hb : b < 256) : sw1 (256 * q + b) (256 * M + 85) = 256 * sw1 q M + sw1 b 85 := by
  unfold sw1
  have e : (256 * q + b) / 2 = 256 * (q / 2) + (128 * (q % 2) + b / 2) := by omega
  rw [e, nl_and (by omega) (by decide), sw1_b b hb (q % 2) (by omega)]
  have h1 : (q / 2 &&& M) ≤ q / 2 := Nat.and_le_left
  have h2 : (b / 2 &&& 85) ≤ b / 2 := Nat.and_le_left
  omega
theorem sw2_r {q M b : Nat} (hb : b < 256) : sw2 (256 * q + b) (256 * M + 51) = 256 * sw2 q M + sw2 b 51 := by
  unfold sw2
  have e : (256 * q + b) / 4 = 256 * (q / 4) + (64 * (q % 4) + b / 4) := by omega
  rw [e, nl_and hb (by decide), nl_and (b := 64 * (q % 4) + b / 4) (by omega) (by decide), sw2_b b hb (q % 4) (by omega)]
  omega
theorem sw3_m : ∀ b, b < 256 → b &&& 15 = b % 16 := by decide +kernel
theorem sw3_r {q M b : Nat} (hb : b + b / 16 < 192) (hq : q % 16 ≤ 4) : sw3 (256 * q + b) (256 * M + 15) = 256 * sw3 q M + sw3 b 15 := by
  unfold sw3
  have e : 256 * q + b + (256 * q + b) / 16 = 256 * (q + q / 16) + (16 * (q % 16) + (b + b / 16)) := by omega
  rw [e, nl_and (by omega) (by decide), sw3_m _ (by omega), sw3_m _ (by omega)]
  omega
def sw12 (b : Nat) : Nat := sw2 (sw1 b 85) 51
theorem sw12_b : ∀ b, b < 256 → sw1 b 85 < 256 ∧ sw12 b < 256 ∧ sw12 b % 16 ≤ 4 ∧ sw12 b + sw12 b / 16 < 192 ∧ sw3 (sw12 b) 15 = cn (fun i => b.testBit i) 8 := by decide +kernel
theorem sw_all {b0 b1 b2 b3 : Nat} (h0 : b0 < 256) (h1 : b1 < 256) (h2 : b2 < 256) (h3 : b3 < 256) :
    sw3 (sw2 (sw1 (256 * (256 * (256 * b3 + b2) + b1) + b0) 0x55555555) 0x33333333) 0x0f0f0f0f = 256 * (256 * (256 * cn (fun i => b3.testBit i) 8 + cn (fun i => b2.testBit i) 8) + cn (fun i => b1.testBit i) 8) + cn (fun i => b0.testBit i) 8 := by
  obtain ⟨p0, q0, r0, s0, t0⟩ := sw12_b b0 h0
  obtain ⟨p1, q1, r1, s1, t1⟩ := sw12_b b1 h1
  obtain ⟨p2, q2, r2, s2, t2⟩ := sw12_b b2 h2
  obtain ⟨p3, q3, r3, s3, t3⟩ := sw12_b b3 h3
  have e1 : sw1 (256 * (256 * (256 * b3 + b2) + b1) + b0) 0x55555555 = 256 * (256 * (256 * sw1 b3 85 + sw1 b2 85) + sw1 b1 85) + sw1 b0 85 := by
    rw [show 0x55555555 = 256 * 0x555555 + 85 by decide, sw1_r h0, show 0x555555 = 256 * 0x5555 + 85 by decide, sw1_r h1, show 0x5555 = 256 * 85 + 85 by decide, sw1_r h2]
  have e2 : sw2 (256 * (256 * (256 * sw1 b3 85 + sw1 b2 85) + sw1 b1 85) + sw1 b0 85) 0x33333333 = 256 * (256 * (256 * sw12 b3 + sw12 b2) + sw12 b1) + sw12 b0 := by
    rw [show 0x33333333 = 256 * 0x333333 + 51 by decide, sw2_r p0, show 0x333333 = 256 * 0x3333 + 51 by decide, sw2_r p1, show 0x3333 = 256 * 51 + 51 by decide, sw2_r p2]
    rfl
  rw [e1, e2, show 0x0f0f0f0f = 256 * 0x0f0f0f + 15 by decide, sw3_r s0 (by omega), show 0x0f0f0f = 256 * 0x0f0f + 15 by decide, sw3_r s1 (by omega), show 0x0f0f = 256 * 15 + 15 by decide, sw3_r s2 r3, t0, t1, t2, t3]
theorem cn_add (p : Nat → Bool) (n : Nat) : ∀ k, cn p (n + k) = cn p n + cn (fun i => p (n + i)) k := by
  intro k
  induction k with
  | zero => rfl
  | succ k ih =>
    show cn p (n + k) + (if p (n + k) = true then 1 else 0) = cn p n + (cn (fun i => p (n + i)) k + (if p (n + k) = true then 1 else 0))
    rw [ih]; omega
theorem sw_fin {e0 e1 e2 e3 y : Nat} (h0 : e0 ≤ 8) (h1 : e1 ≤ 8) (h2 : e2 ≤ 8) (h3 : e3 ≤ 8) (hy : y = 256 * (256 * (256 * e3 + e2) + e1) + e0) : (y + y / 256 + (y + y / 256) / 65536) % 64 = e0 + e1 + e2 + e3 ∧ y < 2 ^ 28 := by
  have a1 : y / 256 = 256 * (256 * e3 + e2) + e1 := by omega
  have a2 : y + y / 256 = 65536 * (256 * e3 + (e2 + e3)) + (256 * (e1 + e2) + (e0 + e1)) := by omega
  have a3 : (y + y / 256) / 65536 = 256 * e3 + (e2 + e3) := by omega
  rw [a3, a2]
  omega
/-- Integer.bitCount's way is right -/
theorem sw_pop (N : Nat) (hN : N < 2 ^ 32) : ∀ y3, y3 = sw3 (sw2 (sw1 N 0x55555555) 0x33333333) 0x0f0f0f0f → (y3 + y3 / 256 + (y3 + y3 / 256) / 65536) % 64 = cn (fun i => N.testBit i) 32 ∧ y3 < 2 ^ 28 := by
  intro y3 hy
  have e : N = 256 * (256 * (256 * (N / 16777216) + N / 65536 % 256) + N / 256 % 256) + N % 256 := by omega
  have h := sw_all (b0 := N % 256) (b1 := N / 256 % 256) (b2 := N / 65536 % 256) (b3 := N / 16777216) (by omega) (by omega) (by omega) (by omega)
  rw [← e, ← hy] at h
  have c0 := cn_le (fun i => (N % 256).testBit i) 8
  have c1 := cn_le (fun i => (N / 256 % 256).testBit i) 8
  have c2 := cn_le (fun i => (N / 65536 % 256).testBit i) 8
  have c3 := cn_le (fun i => (N / 16777216).testBit i) 8
  have hs : cn (fun i => N.testBit i) 32 = cn (fun i => (N % 256).testBit i) 8 + cn (fun i => (N / 256 % 256).testBit i) 8 + cn (fun i => (N / 65536 % 256).testBit i) 8 + cn (fun i => (N / 16777216).testBit i) 8 := by
    rw [show 32 = 8 + 24 from rfl, cn_add, show 24 = 8 + 16 from rfl, cn_add, show 16 = 8 + 8 from rfl, cn_add]
    rw [cn_congr (n := 8) (p := fun i => N.testBit i) (q := fun i => (N % 256).testBit i) (fun i hi => by rw [show 256 = 2 ^ 8 from rfl, Nat.testBit_mod_two_pow]; simp [hi])]
    rw [cn_congr (n := 8) (p := fun i => N.testBit (8 + i)) (q := fun i => (N / 256 % 256).testBit i) (fun i hi => by rw [show 256 = 2 ^ 8 from rfl, Nat.testBit_mod_two_pow, Nat.testBit_div_two_pow]; simp [hi, Nat.add_comm])]
    rw [cn_congr (n := 8) (p := fun i => N.testBit (8 + (8 + i))) (q := fun i => (N / 65536 % 256).testBit i) (fun i hi => by rw [show 256 = 2 ^ 8 from rfl, Nat.testBit_mod_two_pow, show 65536 = 2 ^ 16 from rfl, Nat.testBit_div_two_pow, show i + 16 = 8 + (8 + i) by omega]; simp [hi])]
    rw [cn_congr (n := 8) (p := fun i => N.testBit (8 + (8 + (8 + i)))) (q := fun i => (N / 16777216).testBit i) (fun i hi => by rw [show 16777216 = 2 ^ 24 from rfl, Nat.testBit_div_two_pow, show i + 24 = 8 + (8 + (8 + i)) by omega])]
    omega
  rw [hs]
  exact sw_fin c0 c1 c2 c3 h
def pop (x : Int32) : Nat := cn (bt x) 32
abbrev sp_bitCount : dk_M := dk_sp 1 true (fun x : Int32 => [.inl x]) (fun _ _ => True) (fun x σ r σ' => σ' = σ ∧ r = nI (pop x))
def Nb (x : Int32) : Nat := x.toBitVec.toNat
def Us (x : Int32) (n : Nat) : Int32 := (x.toUInt32 >>> ((nI n).toUInt32 &&& Int32.toUInt32 31)).toInt32
theorem Nb_us (x : Int32) {n : Nat} (hn : n < 32) : Nb (Us x n) = Nb x / 2 ^ n := by
  unfold Nb Us
  show (x.toUInt32 >>> ((nI n).toUInt32 &&& Int32.toUInt32 31)).toBitVec.toNat = _
  rw [UInt32.toBitVec_shiftRight]
  show (x.toUInt32.toBitVec >>> (((nI n).toUInt32 &&& Int32.toUInt32 31).toBitVec % 32).toNat).toNat = _
  rw [s_u n hn, BitVec.toNat_ushiftRight, Nat.shiftRight_eq_div_pow]
  rfl
theorem Nb_and (x y : Int32) : Nb (x &&& y) = Nb x &&& Nb y := by unfold Nb; rw [Int32.toBitVec_and, BitVec.toNat_and]
theorem Nb_add {x y : Int32} (h : Nb x + Nb y < 2 ^ 32) : Nb (x + y) = Nb x + Nb y := by
  unfold Nb at h ⊢
  rw [Int32.toBitVec_add, BitVec.toNat_add, Nat.mod_eq_of_lt h]
theorem Nb_sub {x y : Int32} (h : Nb y ≤ Nb x) : Nb (x - y) = Nb x - Nb y := by
  unfold Nb at h ⊢
  rw [Int32.toBitVec_sub, BitVec.toNat_sub_of_le (BitVec.le_def.mpr h)]
theorem Nb_lt (x : Int32) : Nb x < 2 ^ 32 := x.toBitVec.isLt
theorem pop_raw (x : Int32) : ∀ x1 x2 x3 x4 x5 : Int32, x1 = x - (Us x 1 &&& 1431655765) → x2 = (x1 &&& 858993459) + (Us x1 2 &&& 858993459) → x3 = (x2 + Us x2 4) &&& 252645135 → x4 = x3 + Us x3 8 → x5 = x4 + Us x4 16 → x5 &&& 63 = nI (pop x) := by
  intro x1 x2 x3 x4 x5 h1 h2 h3 h4 h5
  have hx := Nb_lt x
  have e1 : Nb x1 = sw1 (Nb x) 0x55555555 := by
    rw [h1, Nb_sub, Nb_and, Nb_us x (by decide)]
    · rfl
    · rw [Nb_and, Nb_us x (by decide)]
      have : Nb x / 2 ^ 1 &&& Nb 1431655765 ≤ Nb x / 2 ^ 1 := Nat.and_le_left
      omega
  have e2 : Nb x2 = sw2 (Nb x1) 0x33333333 := by
    rw [h2, Nb_add, Nb_and, Nb_and, Nb_us x1 (by decide)]
    · rfl
    · rw [Nb_and, Nb_and, Nb_us x1 (by decide)]
      have a1 : Nb x1 &&& Nb 858993459 ≤ Nb 858993459 := Nat.and_le_right
      have a2 : Nb x1 / 2 ^ 2 &&& Nb 858993459 ≤ Nb 858993459 := Nat.and_le_right
      have a3 : Nb 858993459 = 858993459 := rfl
      omega
  have l2 : Nb x2 ≤ 1717986918 := by
    rw [h2, Nb_add, Nb_and, Nb_and, Nb_us x1 (by decide)]
    · have a1 : Nb x1 &&& Nb 858993459 ≤ Nb 858993459 := Nat.and_le_right
      have a2 : Nb x1 / 2 ^ 2 &&& Nb 858993459 ≤ Nb 858993459 := Nat.and_le_right
      have a3 : Nb 858993459 = 858993459 := rfl
      omega
    · rw [Nb_and, Nb_and, Nb_us x1 (by decide)]
      have a1 : Nb x1 &&& Nb 858993459 ≤ Nb 858993459 := Nat.and_le_right
      have a2 : Nb x1 / 2 ^ 2 &&& Nb 858993459 ≤ Nb 858993459 := Nat.and_le_right
      have a3 : Nb 858993459 = 858993459 := rfl
      omega
  have e3 : Nb x3 = sw3 (Nb x2) 0x0f0f0f0f := by
    rw [h3, Nb_and, Nb_add, Nb_us x2 (by decide)]
    · rfl
    · rw [Nb_us x2 (by decide)]; omega
  obtain ⟨k1, k2⟩ := sw_pop (Nb x) hx (Nb x3) (by rw [e3, e2, e1])
  have e4 : Nb x4 = Nb x3 + Nb x3 / 256 := by
    rw [h4, Nb_add, Nb_us x3 (by decide)]
    rw [Nb_us x3 (by decide)]; omega
  have e5 : Nb x5 = Nb x4 + Nb x4 / 65536 := by
    rw [h5, Nb_add, Nb_us x4 (by decide)]
    rw [Nb_us x4 (by decide)]; omega
  have hpop : pop x = cn (fun i => (Nb x).testBit i) 32 := rfl
  have hp32 : pop x ≤ 32 := cn_le _ _
  apply Int32.toBitVec_inj.mp
  apply BitVec.eq_of_toNat_eq
  show Nb (x5 &&& 63) = Nb (nI (pop x))
  have e6 : Nb (nI (pop x)) = pop x := by
    unfold Nb nI
    show (BitVec.ofNat 32 (pop x)).toNat = pop x
    rw [BitVec.toNat_ofNat, Nat.mod_eq_of_lt (by omega)]
  rw [e6, Nb_and, e5, e4, hpop, ← k1, show Nb 63 = 2 ^ 6 - 1 from rfl, Nat.and_two_pow_sub_one_eq_mod]
set_option maxRecDepth 100000 in
set_option maxHeartbeats 2000000 in
theorem q_bitCount : dk_pure (kJ6_bitCount_0f7a4, [], [], [], nJ6, 1, false) sp_bitCount := by
  refine dk_sp_pure (fun x x' e => by cases e; rfl) (fun _ => rfl) ?_
  intro OK x σ _ hC
  refine hC.go (fun _ => none) 60 ?_
  refine ⟨by decide, by decide, by decide, by decide, by decide, rfl, ?_⟩
  exact pop_raw x _ _ _ _ _ rfl rfl rfl rfl rfl
