/-! PURE: numbers, loops -/
theorem fb_lt (a b : Int32) : a < b ↔ a.toInt < b.toInt := Int32.lt_iff_toInt_lt
theorem fb_le (a b : Int32) : a ≤ b ↔ a.toInt ≤ b.toInt := Int32.le_iff_toInt_le
theorem fb_eq (a b : Int32) : a = b ↔ a.toInt = b.toInt := Int32.toInt_inj.symm
theorem fb_ltL (a b : Int64) : a < b ↔ a.toInt < b.toInt := Int64.lt_iff_toInt_lt
theorem fb_leL (a b : Int64) : a ≤ b ↔ a.toInt ≤ b.toInt := Int64.le_iff_toInt_le
theorem fb_eqL (a b : Int64) : a = b ↔ a.toInt = b.toInt := Int64.toInt_inj.symm
/-- a whole number as an int, where it fits -/
theorem fb_nI {n : Nat} (h : n < 2 ^ 31) : (nI n).toInt = n := nI_toInt h
/-- an int from 0 to a bound is a whole number -/
theorem fb_of {x : Int32} {N : Nat} (h0 : 0 ≤ x.toInt) (h1 : x.toInt ≤ N) : ∃ n : Nat, n ≤ N ∧ x = nI n := by
  refine ⟨x.toInt.toNat, by omega, ?_⟩
  rw [fb_eq, fb_nI]
  · omega
  · have := x.toInt_lt
    omega
/-- the numbers 0 .. N as ints -/
def inN (x : Int32) (N : Nat) : Prop := ∃ n : Nat, n ≤ N ∧ x = nI n
theorem inN_toInt {x : Int32} {N : Nat} (hN : N < 2 ^ 31) : inN x N ↔ 0 ≤ x.toInt ∧ x.toInt ≤ N := by
  constructor
  · rintro ⟨n, h, rfl⟩
    rw [fb_nI (by omega)]
    omega
  · rintro ⟨h0, h1⟩
    exact fb_of h0 h1
theorem nI_inj {a b : Nat} (ha : a < 2 ^ 31) (hb : b < 2 ^ 31) (h : nI a = nI b) : a = b := (nI_eq ha hb).mp h
-- truth values
def bI (b : Bool) : Int32 := if b then 1 else 0
theorem bI_t : bI true = 1 := rfl
theorem bI_f : bI false = 0 := rfl
theorem bI_B (b : Bool) : isB (bI b) := by cases b; exact isB_0; exact isB_1
theorem bI_0 (b : Bool) : bI b = 0 ↔ b = false := by cases b <;> decide
theorem bI_1 (b : Bool) : bI b = 1 ↔ b = true := by cases b <;> decide
theorem bI_n0 (b : Bool) : ¬ bI b = 0 ↔ b = true := by cases b <;> decide
-- a way through a decision whose condition is known
theorem dt {c A B : Prop} (h : c) (a : A) : (c → A) ∧ (¬ c → B) := ⟨fun _ => a, fun n => absurd h n⟩
theorem df {c A B : Prop} (h : ¬ c) (b : B) : (c → A) ∧ (¬ c → B) := ⟨fun y => absurd y h, fun _ => b⟩
theorem dn {c A B : Prop} (h : c) (b : B) : (¬ c → A) ∧ (c → B) := ⟨fun n => absurd h n, fun _ => b⟩
theorem dm {c A B : Prop} (h : ¬ c) (a : A) : (¬ c → A) ∧ (c → B) := ⟨fun _ => a, fun y => absurd y h⟩
-- loops: a measure falls
theorem lpm1 {A1 : Type} (W : Nat → A1 → St → Prop) (I : A1 → St → Prop) (μ : A1 → Nat) (hs : ∀ (n : Nat) (a : A1) (σ : St), I a σ → (∀ (b : A1) (τ : St), I b τ → μ b < μ a → W n b τ) → W (n + 1) a σ) (a : A1) (σ : St) (h : I a σ) : ∃ n, W n a σ := by
  have key : ∀ (n : Nat) (a : A1) (σ : St), I a σ → μ a < n → W n a σ := by
    intro n
    induction n with
    | zero => intro a σ _ h; exact absurd h (Nat.not_lt_zero _)
    | succ n ih => intro a σ hI hm; exact hs n a σ hI (fun b τ hb hlt => ih b τ hb (by omega))
  exact ⟨μ a + 1, key _ a σ h (Nat.lt_succ_self _)⟩
theorem lpm0 (W : Nat → St → Prop) (I : Nat → St → Prop) (hs : ∀ (n : Nat) (m : Nat) (σ : St), I m σ → (∀ (m' : Nat) (τ : St), I m' τ → m' < m → W n τ) → W (n + 1) σ) (m : Nat) (σ : St) (h : I m σ) : ∃ n, W n σ := by
  have key : ∀ (n : Nat) (m : Nat) (σ : St), I m σ → m < n → W n σ := by
    intro n
    induction n with
    | zero => intro a σ _ h; exact absurd h (Nat.not_lt_zero _)
    | succ n ih => intro a σ hI hm; exact hs n a σ hI (fun b τ hb hlt => ih b τ hb (by omega))
  exact ⟨m + 1, key _ m σ h (Nat.lt_succ_self _)⟩
/-- for i from 0 below e: the counter alone -/
theorem lpc1 (W : Nat → Int32 → St → Prop) (e : Nat) (he : e < 2 ^ 31) (I : Nat → St → Prop) (hx : ∀ (n : Nat) (σ : St), I e σ → W (n + 1) (nI e) σ) (hs : ∀ (n i : Nat) (σ : St), i < e → I i σ → (∀ τ : St, I (i + 1) τ → W n (nI (i + 1)) τ) → W (n + 1) (nI i) σ) (σ : St) (h : I 0 σ) : ∃ n, W n 0 σ := by
  have key : ∀ (k i : Nat) (σ : St), i ≤ e → e - i < k → I i σ → W k (nI i) σ := by
    intro k
    induction k with
    | zero => intro i σ _ h; omega
    | succ k ih =>
      intro i σ hi hk hI
      rcases Nat.lt_or_ge i e with h1 | h1
      · exact hs k i σ h1 hI (fun τ hτ => ih (i + 1) τ h1 (by omega) hτ)
      · have : i = e := by omega
        subst this
        exact hx k σ hI
  exact ⟨e + 1, by rw [← nI_0]; exact key (e + 1) 0 σ (Nat.zero_le _) (by omega) h⟩
/-- for i from 0 below e, with one int carried -/
theorem lpc2 (W : Nat → Int32 → Int32 → St → Prop) (e : Nat) (he : e < 2 ^ 31) (I : Nat → Int32 → St → Prop) (hx : ∀ (n : Nat) (v : Int32) (σ : St), I e v σ → W (n + 1) v (nI e) σ) (hs : ∀ (n i : Nat) (v : Int32) (σ : St), i < e → I i v σ → (∀ (v' : Int32) (τ : St), I (i + 1) v' τ → W n v' (nI (i + 1)) τ) → W (n + 1) v (nI i) σ) (v : Int32) (σ : St) (h : I 0 v σ) : ∃ n, W n v 0 σ := by
  have key : ∀ (k i : Nat) (v : Int32) (σ : St), i ≤ e → e - i < k → I i v σ → W k v (nI i) σ := by
    intro k
    induction k with
    | zero => intro i v σ _ h; omega
    | succ k ih =>
      intro i v σ hi hk hI
      rcases Nat.lt_or_ge i e with h1 | h1
      · exact hs k i v σ h1 hI (fun v' τ hτ => ih (i + 1) v' τ h1 (by omega) hτ)
      · have : i = e := by omega
        subst this
        exact hx k v σ hI
  exact ⟨e + 1, by rw [← nI_0]; exact key (e + 1) 0 v σ (Nat.zero_le _) (by omega) h⟩
