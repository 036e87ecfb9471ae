/-! THE ABSTRACT DESK MACHINE: all cells that the constructors make, numbered; a store says what ints they hold; a step of a method over it, as a predicate transformer. -/
abbrev dk_V : Type := Int32 ⊕ Nat
abbrev dk_S : Type := Nat → Nat → Int32
abbrev dk_L : Type := List (Nat × dk_V)
/-- the contents of one cell replaced -/
def dk_up (σ : dk_S) (k : Nat) (f : Nat → Int32) : dk_S := fun k' => if k' = k then f else σ k'
/-- the objects: the class's place in vwCl, its fields (none: an int; some k: the cell k) -/
def dk_obj : Nat → Option (Nat × List (Option Nat))
  | 0 => some (6, [some 1, some 7, some 9, some 12, some 15, some 18, some 25, none, none])
  | 1 => some (4, [none, none, none, some 2, some 3, some 4, some 5, some 6])
  | 7 => some (2, [none, none, some 8])
  | 9 => some (5, [some 1, none, none, some 10, some 11])
  | 12 => some (5, [some 1, none, none, some 13, some 14])
  | 15 => some (0, [some 1, some 9, some 16, some 17, none])
  | 18 => some (1, [some 1, some 19, none, none, some 20, some 21, some 22, some 23, none, none, some 24])
  | 25 => some (3, [none, none, none, none, none, none, some 26, some 27, some 8, none, none, some 28, some 29])
  | 30 => some (7, [none, none, none, none, some 31, some 32, some 33, some 34, some 35, some 36, none, some 37, some 38, some 39, some 40, none, some 41, none, some 42, none, none, some 43, some 44, none, none, none, none, none, none, none, none, some 45, some 46, some 47, some 48])
  | _ => none
/-- the arrays of ints (false) and of booleans (true): their lengths -/
def dk_arr : Nat → Option (Bool × Nat)
  | 2 => some (false, 30)
  | 3 => some (false, 120)
  | 4 => some (false, 120)
  | 5 => some (false, 120)
  | 6 => some (true, 120)
  | 8 => some (false, 30)
  | 10 => some (false, 31)
  | 11 => some (false, 31)
  | 13 => some (false, 31)
  | 14 => some (false, 31)
  | 16 => some (false, 30)
  | 17 => some (false, 30)
  | 19 => some (false, 31)
  | 20 => some (false, 150)
  | 21 => some (false, 150)
  | 22 => some (false, 150)
  | 23 => some (false, 150)
  | 26 => some (false, 30)
  | 27 => some (false, 16)
  | 28 => some (false, 30)
  | 29 => some (false, 16)
  | 31 => some (false, 30)
  | 32 => some (false, 120)
  | 33 => some (false, 120)
  | 34 => some (false, 120)
  | 35 => some (true, 120)
  | 36 => some (false, 30)
  | 37 => some (false, 30)
  | 38 => some (false, 30)
  | 39 => some (false, 30752)
  | 40 => some (false, 40)
  | 41 => some (false, 30)
  | 42 => some (false, 30)
  | 43 => some (false, 30)
  | 44 => some (false, 30)
  | 45 => some (false, 30)
  | 46 => some (false, 16)
  | 47 => some (false, 16)
  | 48 => some (false, 40)
  | k => if 49 ≤ k ∧ k < 81 then some (false, 31) else none
def dk_look : dk_L → Nat → Option dk_V
  | [], _ => none
  | (j, v) :: r, i => match Nat.beq j i with
    | true => some v
    | false => dk_look r i
def dk_rep : dk_L → Nat → dk_V → dk_L
  | [], _, _ => []
  | (j, w) :: r, i, v => (j, match Nat.beq j i with | true => v | false => w) :: dk_rep r i v
def dk_set (l : dk_L) (i : Nat) (v : dk_V) : dk_L := match dk_look l i with
  | some _ => dk_rep l i v
  | none => l ++ [(i, v)]
/-- a method's instructions: where, what, how long, and for a jump where to -/
abbrev dk_C : Type := List (Nat × Instr × Nat × Nat)
def dk_find : dk_C → Nat → Option (Instr × Nat × Nat)
  | [], _ => none
  | (p, x) :: r, pc => match Nat.beq p pc with
    | true => some x
    | false => dk_find r pc
/-- a field by its pool number: the class's place, the slot, 1 an int that may be put, 2 a boolean, 0 what is only read -/
abbrev dk_F : Type := List (Nat × Nat × Nat × Nat)
def dk_ff : dk_F → Nat → Option (Nat × Nat × Nat)
  | [], _ => none
  | (p, x) :: r, i => match Nat.beq p i with
    | true => some x
    | false => dk_ff r i
/-- a method's contract: how many values it takes, whether it answers, what it asks for, what it gives -/
abbrev dk_M : Type := Nat × Bool × (List dk_V → dk_S → Prop) × (List dk_V → dk_S → Int32 → dk_S → Prop)
abbrev dk_T : Type := List (Nat × dk_M)
def dk_fm : dk_T → Nat → Option dk_M
  | [], _ => none
  | (p, x) :: r, i => match Nat.beq p i with
    | true => some x
    | false => dk_fm r i
def dk_fc : List (Nat × Int32) → Nat → Option Int32
  | [], _ => none
  | (p, x) :: r, i => match Nat.beq p i with
    | true => some x
    | false => dk_fc r i
def dk_cmp (c : ClassFile.Cond) (x y : Int32) : Prop := match c with
  | .eq => x = y
  | .ne => ¬ x = y
  | .lt => x < y
  | .ge => y ≤ x
  | .gt => y < x
  | .le => x ≤ y
def dk_sw (K : Nat → Prop) (pc : Nat) (x : Int32) : Int → List Int → Prop
  | _, [] => True
  | lo, o :: r => (x.toInt = lo → 0 ≤ (pc : Int) + o ∧ K ((pc : Int) + o).toNat) ∧ dk_sw K pc x (lo + 1) r
/-- what a step over ints on the stack gives -/
def dk_bin : Instr → Int32 → Int32 → Option Int32
  | .iadd, x, y => some (x + y)
  | .isub, x, y => some (x - y)
  | .imul, x, y => some (x * y)
  | .iand, x, y => some (x &&& y)
  | .ior, x, y => some (x ||| y)
  | .ixor, x, y => some (x ^^^ y)
  | .ishl, x, y => some (x <<< (y &&& 31))
  | .ishr, x, y => some (x >>> (y &&& 31))
  | .iushr, x, y => some ((x.toUInt32 >>> (y.toUInt32 &&& Int32.toUInt32 31)).toInt32)
  | _, _, _ => none
/-- a contract at a call: what it asks for holds, and all that it may give goes on -/
def dk_call (M : dk_M) (st : List dk_V) (σ : dk_S) (K : List dk_V → dk_S → Prop) : Prop :=
  M.1 ≤ st.length ∧ st.length ≤ M.1 + 8 ∧ M.2.2.1 (st.take M.1).reverse σ ∧ ∀ (r : Int32) (σ' : dk_S), M.2.2.2 (st.take M.1).reverse σ r σ' → K (match M.2.1 with | true => .inl r :: st.drop M.1 | false => st.drop M.1) σ'
/-- the tables of a method -/
abbrev dk_G : Type := dk_C × dk_F × dk_T × dk_T × List (Nat × Int32) × Nat × Bool
/-- one step; K: what is known of the places to go on at -/
def dk_step (G : dk_G) (Post : Int32 → dk_S → Prop) (K : Nat → dk_L → List dk_V → dk_S → Prop) (pc : Nat) (l : dk_L) (st : List dk_V) (σ : dk_S) : Prop :=
  match dk_find G.1 pc with
  | none => False
  | some (i, n, t) => match i with
    | .aload_n x => match dk_look l x.val with
      | some (.inr k) => K (pc + n) l (.inr k :: st) σ
      | _ => False
    | .iload_n x => match dk_look l x.val with
      | some (.inl v) => K (pc + n) l (.inl v :: st) σ
      | _ => False
    | .iload x => match dk_look l x with
      | some (.inl v) => K (pc + n) l (.inl v :: st) σ
      | _ => False
    | .istore_n x => match st with
      | .inl v :: r => x.val < G.2.2.2.2.2.1 ∧ K (pc + n) (dk_set l x.val (.inl v)) r σ
      | _ => False
    | .istore x => match st with
      | .inl v :: r => x < G.2.2.2.2.2.1 ∧ K (pc + n) (dk_set l x (.inl v)) r σ
      | _ => False
    | .iinc x d => match dk_look l x with
      | some (.inl v) => x < G.2.2.2.2.2.1 ∧ K (pc + n) (dk_set l x (.inl (v + Int32.ofInt d))) st σ
      | _ => False
    | .iconst x => K (pc + n) l (.inl (Int32.ofInt x) :: st) σ
    | .bipush x => K (pc + n) l (.inl ((Int8.ofInt x).toInt32) :: st) σ
    | .sipush x => K (pc + n) l (.inl ((Int16.ofInt x).toInt32) :: st) σ
    | .ldc x => match dk_fc G.2.2.2.2.1 x with
      | some v => K (pc + n) l (.inl v :: st) σ
      | none => False
    | .ldc_w x => match dk_fc G.2.2.2.2.1 x with
      | some v => K (pc + n) l (.inl v :: st) σ
      | none => False
    | .dup => match st with
      | v :: r => K (pc + n) l (v :: v :: r) σ
      | _ => False
    | .dup2 => match st with
      | v :: w :: r => K (pc + n) l (v :: w :: v :: w :: r) σ
      | _ => False
    | .pop => match st with
      | _ :: r => K (pc + n) l r σ
      | _ => False
    | .idiv => match st with
      | .inl y :: .inl x :: r => ¬ y = 0 ∧ K (pc + n) l (.inl (x / y) :: r) σ
      | _ => False
    | .irem => match st with
      | .inl y :: .inl x :: r => ¬ y = 0 ∧ K (pc + n) l (.inl (x - x / y * y) :: r) σ
      | _ => False
    | .getfield x => match st with
      | .inr k :: r => match dk_ff G.2.1 x, dk_obj k with
        | some (ci, j, _), some (cj, fs) => match Nat.beq ci cj, fs[j]? with
          | true, some none => K (pc + n) l (.inl (σ k j) :: r) σ
          | true, some (some k') => K (pc + n) l (.inr k' :: r) σ
          | _, _ => False
        | _, _ => False
      | _ => False
    | .putfield x => match st with
      | .inl v :: .inr k :: r => match dk_ff G.2.1 x, dk_obj k with
        | some (ci, j, b), some (cj, fs) => match Nat.beq ci cj, fs[j]?, b with
          | true, some none, 1 => K (pc + n) l r (dk_up σ k (upd (σ k) j v))
          | true, some none, 2 => (v = 0 ∨ v = 1) ∧ K (pc + n) l r (dk_up σ k (upd (σ k) j v))
          | _, _, _ => False
        | _, _ => False
      | _ => False
    | .iaload => match st with
      | .inl i :: .inr k :: r => ∃ m, dk_arr k = some (false, m) ∧ vp_in i m ∧ K (pc + n) l (.inl (σ k i.toNatClampNeg) :: r) σ
      | _ => False
    | .baload => match st with
      | .inl i :: .inr k :: r => ∃ m, dk_arr k = some (true, m) ∧ vp_in i m ∧ K (pc + n) l (.inl (σ k i.toNatClampNeg) :: r) σ
      | _ => False
    | .iastore => match st with
      | .inl v :: .inl i :: .inr k :: r => ∃ m, dk_arr k = some (false, m) ∧ vp_in i m ∧ K (pc + n) l r (dk_up σ k (upd (σ k) i.toNatClampNeg v))
      | _ => False
    | .bastore => match st with
      | .inl v :: .inl i :: .inr k :: r => ∃ m, dk_arr k = some (true, m) ∧ vp_in i m ∧ (v = 0 ∨ v = 1) ∧ K (pc + n) l r (dk_up σ k (upd (σ k) i.toNatClampNeg v))
      | _ => False
    | .aaload => match st with
      | .inl i :: .inr k :: r => k = 24 ∧ vp_in i 32 ∧ K (pc + n) l (.inr (49 + i.toNatClampNeg) :: r) σ
      | _ => False
    | .arraylength => match st with
      | .inr k :: r => ∃ b m, dk_arr k = some (b, m) ∧ K (pc + n) l (.inl (Int32.ofNat m) :: r) σ
      | _ => False
    | .goto _ => K t l st σ
    | .ifCond c _ => match st with
      | .inl x :: r => (dk_cmp c x 0 → K t l r σ) ∧ (¬ dk_cmp c x 0 → K (pc + n) l r σ)
      | _ => False
    | .if_icmp c _ => match st with
      | .inl y :: .inl x :: r => (dk_cmp c x y → K t l r σ) ∧ (¬ dk_cmp c x y → K (pc + n) l r σ)
      | _ => False
    | .tableswitch d lo hi os => match st with
      | .inl x :: r => (x.toInt < lo ∨ hi < x.toInt → 0 ≤ (pc : Int) + d ∧ K ((pc : Int) + d).toNat l r σ) ∧ lo + os.toList.length = hi + 1 ∧ dk_sw (fun q => K q l r σ) pc x lo os.toList
      | _ => False
    | .invokevirtual x => match dk_fm G.2.2.1 x with
      | some M => dk_call M st σ (K (pc + n) l)
      | none => False
    | .invokestatic x => match dk_fm G.2.2.2.1 x with
      | some M => dk_call M st σ (K (pc + n) l)
      | none => False
    | .ireturn => match st with
      | [.inl v] => match G.2.2.2.2.2.2 with
        | true => (v = 0 ∨ v = 1) ∧ Post v σ
        | false => Post v σ
      | _ => False
    | .return_ => match st with
      | [] => Post 0 σ
      | _ => False
    | i => match st with
      | .inl y :: .inl x :: r => match dk_bin i x y with
        | some v => K (pc + n) l (.inl v :: r) σ
        | none => False
      | _ => False
/-- steps up to the places where a claim stands; there the first so many locals are kept -/
def dk_run (G : dk_G) (Post : Int32 → dk_S → Prop) (OK : Nat → dk_L → List dk_V → dk_S → Prop) (stops : Nat → Option Nat) : Nat → Nat → dk_L → List dk_V → dk_S → Prop
  | 0, pc, l, st, σ => OK pc l st σ
  | f + 1, pc, l, st, σ => match stops pc with
    | some k => OK pc (l.take k) st σ
    | none => dk_step G Post (dk_run G Post OK stops f) pc l st σ
/-- OK is closed under steps, and holds of more locals where it holds of fewer -/
def dk_ok (G : dk_G) (Post : Int32 → dk_S → Prop) (OK : Nat → dk_L → List dk_V → dk_S → Prop) : Prop :=
  (∀ K : Nat → dk_L → List dk_V → dk_S → Prop, (∀ pc l st σ, K pc l st σ → OK pc l st σ) → ∀ pc l st σ, dk_step G Post K pc l st σ → OK pc l st σ) ∧ ∀ pc l l' st σ, (∀ q ∈ l', q ∈ l) → OK pc l' st σ → OK pc l st σ
/-- the locals at a method's entry -/
def dk_ent : Nat → List dk_V → dk_L
  | _, [] => []
  | i, v :: r => (i, v) :: dk_ent (i + 1) r
/-- a method, by its tables, keeps its contract -/
def dk_pure (G : dk_G) (M : dk_M) : Prop := ∀ (OK : Nat → dk_L → List dk_V → dk_S → Prop) (as : List dk_V) (σ : dk_S), M.2.2.1 as σ → dk_ok G (fun r σ' => M.2.2.2 as σ r σ') OK → as.length = M.1 ∧ OK 0 (dk_ent 0 as) [] σ
theorem dk_ok.run {G : dk_G} {Post : Int32 → dk_S → Prop} {OK : Nat → dk_L → List dk_V → dk_S → Prop} (h : dk_ok G Post OK) (stops : Nat → Option Nat) : ∀ (f pc : Nat) (l : dk_L) (st : List dk_V) (σ : dk_S), dk_run G Post OK stops f pc l st σ → OK pc l st σ := by
  intro f
  induction f with
  | zero => exact fun _ _ _ _ k => k
  | succ f ih =>
    intro pc l st σ k
    unfold dk_run at k
    cases hs : stops pc with
    | some n =>
      rw [hs] at k
      exact h.2 pc l (l.take n) st σ (fun q hq => List.mem_of_mem_take hq) k
    | none =>
      rw [hs] at k
      exact h.1 _ ih pc l st σ k
/-- go on from here, up to the next claim -/
theorem dk_ok.go {G : dk_G} {Post : Int32 → dk_S → Prop} {OK : Nat → dk_L → List dk_V → dk_S → Prop} (h : dk_ok G Post OK) (stops : Nat → Option Nat) (f : Nat) {pc : Nat} {l : dk_L} {st : List dk_V} {σ : dk_S} (k : dk_step G Post (dk_run G Post OK stops f) pc l st σ) : OK pc l st σ :=
  h.1 _ (fun pc l st σ q => h.run stops f pc l st σ q) pc l st σ k
