/-! PURE: bits of an int -/
def bt (x : Int32) (i : Nat) : Bool := x.toBitVec.getLsbD i
theorem bt_or (x y : Int32) (i : Nat) : bt (x ||| y) i = (bt x i || bt y i) := by
  unfold bt
  rw [Int32.toBitVec_or, BitVec.getLsbD_or]
theorem bt_and (x y : Int32) (i : Nat) : bt (x &&& y) i = (bt x i && bt y i) := by
  unfold bt
  rw [Int32.toBitVec_and, BitVec.getLsbD_and]
theorem bt_not (x : Int32) {i : Nat} (h : i < 32) : bt (~~~x) i = ! bt x i := by
  unfold bt
  rw [Int32.toBitVec_not, BitVec.getLsbD_not]
  simp [h]
theorem bt_0 (i : Nat) : bt 0 i = false := by
  unfold bt
  simp
theorem bt_ext {x y : Int32} (h : ∀ i, i < 32 → bt x i = bt y i) : x = y := by
  apply Int32.toBitVec_inj.mp
  apply BitVec.eq_of_getLsbD_eq
  intro i hi
  exact h i hi
theorem bt_one (k : Nat) (hk : k < 32) (i : Nat) (hi : i < 32) : bt ((1 : Int32) <<< (nI k &&& 31)) i = decide (i = k) := by
  have h : ∀ k : Fin 32, ∀ i : Fin 32, bt ((1 : Int32) <<< (nI k.val &&& 31)) i.val = decide (i.val = k.val) := by decide +kernel
  exact h ⟨k, hk⟩ ⟨i, hi⟩
theorem bt_smod (i : Nat) (hi : i < 32) : ((nI i &&& 31).toBitVec.smod 32).toNat = i := by
  have h : ∀ i : Fin 32, ((nI i.val &&& 31).toBitVec.smod 32).toNat = i.val := by decide +kernel
  exact h ⟨i, hi⟩
theorem bt_shr (x : Int32) {i : Nat} (hi : i < 32) : bt (x >>> (nI i &&& 31)) 0 = bt x i := by
  show (BitVec.sshiftRight' x.toBitVec ((nI i &&& 31).toBitVec.smod 32)).getLsbD 0 = _
  rw [BitVec.sshiftRight_eq', bt_smod i hi, BitVec.getLsbD_sshiftRight]
  unfold bt
  simp [hi]
theorem bt_lo (y : Int32) : (y &&& 1) = 1 ↔ bt y 0 = true := by
  have e : (y &&& 1).toBitVec = BitVec.setWidth 32 (BitVec.ofBool (y.toBitVec.getLsbD 0)) := by
    rw [Int32.toBitVec_and, Int32.toBitVec_one]
    exact BitVec.and_one_eq_setWidth_ofBool_getLsbD
  rw [← Int32.toBitVec_inj, e]
  unfold bt
  cases y.toBitVec.getLsbD 0 <;> decide
theorem bt_lo0 (y : Int32) : (y &&& 1) = 0 ↔ bt y 0 = false := by
  have e : (y &&& 1).toBitVec = BitVec.setWidth 32 (BitVec.ofBool (y.toBitVec.getLsbD 0)) := by
    rw [Int32.toBitVec_and, Int32.toBitVec_one]
    exact BitVec.and_one_eq_setWidth_ofBool_getLsbD
  rw [← Int32.toBitVec_inj, e]
  unfold bt
  cases y.toBitVec.getLsbD 0 <;> decide
/-- the test of a bit, as the code writes it -/
theorem bt_t (x : Int32) {i : Nat} (hi : i < 32) : ((x >>> (nI i &&& 31)) &&& (1 : Int32)) = (1 : Int32) ↔ bt x i = true := by
  rw [bt_lo, bt_shr x hi]
theorem bt_t0 (x : Int32) {i : Nat} (hi : i < 32) : ((x >>> (nI i &&& 31)) &&& (1 : Int32)) = 0 ↔ bt x i = false := by
  rw [bt_lo0, bt_shr x hi]
/-- the bits below n for which p says so -/
def bs (n : Nat) (p : Nat → Bool) : Int32 := match n with
  | 0 => 0
  | n + 1 => if p n then bs n p ||| ((1 : Int32) <<< (nI n &&& 31)) else bs n p
theorem bs_0 (p : Nat → Bool) : bs 0 p = 0 := rfl
theorem bs_s (n : Nat) (p : Nat → Bool) : bs (n + 1) p = if p n then bs n p ||| ((1 : Int32) <<< (nI n &&& 31)) else bs n p := rfl
theorem bs_t {n : Nat} {p : Nat → Bool} (h : p n = true) : bs n p ||| ((1 : Int32) <<< (nI n &&& 31)) = bs (n + 1) p := by rw [bs_s, if_pos h]
theorem bs_f {n : Nat} {p : Nat → Bool} (h : ¬ p n = true) : bs n p = bs (n + 1) p := by rw [bs_s, if_neg h]
theorem bt_bs (n : Nat) (hn : n ≤ 32) (p : Nat → Bool) (i : Nat) (hi : i < 32) : bt (bs n p) i = (decide (i < n) && p i) := by
  induction n with
  | zero => rw [bs_0, bt_0]; simp
  | succ n ih =>
    have ih := ih (by omega)
    rw [bs_s]
    by_cases hp : p n = true
    · rw [if_pos hp, bt_or, ih, bt_one n (by omega) i hi]
      by_cases e : i = n
      · subst e; simp [hp]
      · have e2 : decide (i < n + 1) = decide (i < n) := by
          apply decide_eq_decide.mpr
          omega
        simp [e, e2]
    · rw [if_neg hp, ih]
      by_cases e : i = n
      · subst e
        simp [hp]
      · have e2 : decide (i < n + 1) = decide (i < n) := by
          apply decide_eq_decide.mpr
          omega
        rw [e2]
theorem bs_cg {n : Nat} {p q : Nat → Bool} (h : ∀ i, i < n → p i = q i) : bs n p = bs n q := by
  induction n with
  | zero => rfl
  | succ n ih =>
    rw [bs_s, bs_s, h n (Nat.lt_succ_self n), ih (fun i hi => h i (Nat.lt_succ_of_lt hi))]
/-- an int whose bits are p's is the row of p -/
theorem bs_eq {x : Int32} {n : Nat} (hn : n ≤ 32) {p : Nat → Bool} (h : ∀ i, i < 32 → bt x i = (decide (i < n) && p i)) : x = bs n p := bt_ext (fun i hi => by rw [h i hi, bt_bs n hn p i hi])
theorem bs_and {n : Nat} (hn : n ≤ 32) (p q : Nat → Bool) : bs n p &&& bs n q = bs n (fun i => p i && q i) := by
  apply bs_eq hn
  intro i hi
  rw [bt_and, bt_bs n hn p i hi, bt_bs n hn q i hi]
  cases decide (i < n) <;> simp
theorem bs_andn {n : Nat} (hn : n ≤ 32) (p q : Nat → Bool) : bs n p &&& ~~~(bs n q) = bs n (fun i => p i && !q i) := by
  apply bs_eq hn
  intro i hi
  rw [bt_and, bt_not _ hi, bt_bs n hn p i hi, bt_bs n hn q i hi]
  cases decide (i < n) <;> simp
/-- how many below n -/
def ct (n : Nat) (p : Nat → Bool) : Nat := match n with
  | 0 => 0
  | n + 1 => ct n p + (if p n then 1 else 0)
theorem ct_0 (p : Nat → Bool) : ct 0 p = 0 := rfl
theorem ct_s (n : Nat) (p : Nat → Bool) : ct (n + 1) p = ct n p + (if p n then 1 else 0) := rfl
theorem ct_cg {n : Nat} {p q : Nat → Bool} (h : ∀ i, i < n → p i = q i) : ct n p = ct n q := by
  induction n with
  | zero => rfl
  | succ n ih => rw [ct_s, ct_s, h n (Nat.lt_succ_self n), ih (fun i hi => h i (Nat.lt_succ_of_lt hi))]
theorem ct_le (n : Nat) (p : Nat → Bool) : ct n p ≤ n := by
  induction n with
  | zero => exact Nat.le_refl 0
  | succ n ih => rw [ct_s]; split <;> omega
/-- the bits of a row as a whole number -/
def bv (n : Nat) (p : Nat → Bool) : Nat := match n with
  | 0 => 0
  | n + 1 => bv n p + (if p n then 2 ^ n else 0)
theorem bv_lt (n : Nat) (p : Nat → Bool) : bv n p < 2 ^ n := by
  induction n with
  | zero => exact Nat.one_pos
  | succ n ih => unfold bv; rw [Nat.pow_succ]; split <;> omega
theorem bv_low (n : Nat) (p : Nat → Bool) (i : Nat) : (bv n p).testBit i = (decide (i < n) && p i) := by
  induction n with
  | zero => unfold bv; simp
  | succ n ih =>
    unfold bv
    by_cases hp : p n = true
    · rw [if_pos hp, Nat.add_comm]
      rcases Nat.lt_trichotomy i n with e | e | e
      · rw [Nat.testBit_two_pow_add_gt e, ih]
        simp [e, Nat.lt_succ_of_lt e]
      · subst e
        rw [Nat.testBit_two_pow_add_eq, ih]
        simp [hp]
      · have hl : 2 ^ n + bv n p < 2 ^ i := by
          have h1 := bv_lt n p
          have h2 : 2 ^ (n + 1) ≤ 2 ^ i := Nat.pow_le_pow_right (by decide) e
          rw [Nat.pow_succ] at h2
          omega
        rw [Nat.testBit_lt_two_pow hl]
        have : ¬ i < n + 1 := by omega
        simp [this]
    · rw [if_neg hp, Nat.add_zero, ih]
      by_cases e : i = n
      · subst e; simp [hp]
      · have e2 : decide (i < n + 1) = decide (i < n) := by
          apply decide_eq_decide.mpr
          omega
        rw [e2]
theorem bt_nI (v i : Nat) (hi : i < 32) : bt (nI v) i = v.testBit i := by
  unfold bt
  show (BitVec.ofNat 32 v).getLsbD i = _
  rw [BitVec.getLsbD_ofNat]
  simp [hi]
theorem bs_bv {n : Nat} (hn : n ≤ 32) (p : Nat → Bool) : bs n p = nI (bv n p) := by
  symm
  apply bs_eq hn
  intro i hi
  rw [bt_nI _ _ hi, bv_low]
/-- the library's count of bits, as the code writes it -/
def bc (a : Int32) : Int32 :=
  let v1 := (a - ((((a).toUInt32 >>> (((1 : Int32)).toUInt32 &&& Int32.toUInt32 31)).toInt32) &&& (1431655765 : Int32)))
  let v2 := ((v1 &&& (858993459 : Int32)) + ((((v1).toUInt32 >>> (((2 : Int32)).toUInt32 &&& Int32.toUInt32 31)).toInt32) &&& (858993459 : Int32)))
  let v3 := ((v2 + (((v2).toUInt32 >>> (((4 : Int32)).toUInt32 &&& Int32.toUInt32 31)).toInt32)) &&& (252645135 : Int32))
  let v4 := (v3 + (((v3).toUInt32 >>> (((8 : Int32)).toUInt32 &&& Int32.toUInt32 31)).toInt32))
  let v5 := (v4 + (((v4).toUInt32 >>> (((16 : Int32)).toUInt32 &&& Int32.toUInt32 31)).toInt32))
  v5 &&& (63 : Int32)
theorem bc_10 : ∀ v : Fin 1024, bc (nI v.val) = nI (ct 10 (fun i => v.val.testBit i)) := by decide +kernel
theorem ct_cut {n m : Nat} (p : Nat → Bool) (h : n ≤ m) : ct m (fun i => decide (i < n) && p i) = ct n p := by
  induction m with
  | zero => have : n = 0 := by omega
            subst this; rfl
  | succ m ih =>
    rcases Nat.lt_or_ge m n with e | e
    · have : n = m + 1 := by omega
      subst this
      apply ct_cg
      intro i hi
      simp [hi]
    · rw [ct_s, ih e]
      have : ¬ m < n := by omega
      simp [this]
theorem bc_bs {n : Nat} (hn : n ≤ 10) (p : Nat → Bool) : bc (bs n p) = nI (ct n p) := by
  have hlt : bv n p < 1024 := Nat.lt_of_lt_of_le (bv_lt n p) (Nat.pow_le_pow_right (n := 2) (by decide) hn)
  rw [bs_bv (by omega), bc_10 ⟨bv n p, hlt⟩, ← ct_cut p hn]
  congr 1
  apply ct_cg
  intro i _
  exact bv_low n p i
theorem sJ6_bitCount {ids : List Nat} {a : Int32} {σ : St} {post : Int32 → St → Prop} (h : post (bc a) σ) : wJ6_bitCount_0f7a4 ids a σ post := by
  intro v1 e1 v2 e2 v3 e3 v4 e4 v5 e5
  subst e1; subst e2; subst e3; subst e4; subst e5
  exact h
