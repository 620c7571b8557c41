/-! PURE: more of numbers; the first of a row -/
theorem nI_mul (a b : Nat) : nI a * nI b = nI (a * b) := (Int32.ofNat_mul a b).symm
theorem nI_div {a b : Nat} (ha : a < 2 ^ 31) (hb : b < 2 ^ 31) : nI a / nI b = nI (a / b) := by
  have hq : a / b < 2 ^ 31 := Nat.lt_of_le_of_lt (Nat.div_le_self a b) ha
  have hne : nI b ≠ -1 := by
    intro e
    have := congrArg Int32.toInt e
    rw [fb_nI hb] at this
    have h1 : (-1 : Int32).toInt = -1 := by decide
    rw [h1] at this
    omega
  rw [fb_eq, Int32.toInt_div_of_ne_right _ _ hne, fb_nI ha, fb_nI hb, fb_nI hq]
  rfl
theorem nI_sub {a b : Nat} (h : b ≤ a) : nI a - nI b = nI (a - b) := by
  have e : nI a = nI (a - b) + nI b := by rw [nI_add]; congr 1; omega
  rw [e]
  exact Int32.add_sub_cancel _ _
/-- the distance of two numbers below 100, as the code writes it -/
def df2 (a b : Nat) : Nat := (a - b) + (b - a)
theorem df2_I : ∀ a b : Fin 100, (if 0 ≤ nI a.val - nI b.val then nI a.val - nI b.val else 0 - (nI a.val - nI b.val)) = nI (df2 a.val b.val) := by decide +kernel
theorem df2_is {a b : Nat} (ha : a < 100) (hb : b < 100) : (if 0 ≤ nI a - nI b then nI a - nI b else 0 - (nI a - nI b)) = nI (df2 a b) := df2_I ⟨a, ha⟩ ⟨b, hb⟩
theorem df2_J : ∀ a b : Fin 100, (if nI a.val - nI b.val < 0 then -(nI a.val - nI b.val) else nI a.val - nI b.val) = nI (df2 a.val b.val) := by decide +kernel
theorem df2_js {a b : Nat} (ha : a < 100) (hb : b < 100) : (if nI a - nI b < 0 then -(nI a - nI b) else nI a - nI b) = nI (df2 a b) := df2_J ⟨a, ha⟩ ⟨b, hb⟩
theorem df2_le {a b : Nat} (ha : a < 100) (hb : b < 100) : df2 a b < 100 := by unfold df2; omega
-- the first of a row, or its end
def fd (n : Nat) (p : Nat → Bool) : Nat := match n with
  | 0 => 0
  | n + 1 => if fd n p < n then fd n p else if p n then n else n + 1
theorem fd_s (n : Nat) (p : Nat → Bool) : fd (n + 1) p = if fd n p < n then fd n p else if p n then n else n + 1 := rfl
theorem fd_le (n : Nat) (p : Nat → Bool) : fd n p ≤ n := by
  induction n with
  | zero => exact Nat.le_refl 0
  | succ n ih => rw [fd_s]; split <;> (try split) <;> omega
theorem fd_no (n : Nat) (p : Nat → Bool) : ∀ i, i < fd n p → p i = false := by
  induction n with
  | zero => intro i hi; exact absurd hi (Nat.not_lt_zero _)
  | succ n ih =>
    intro i hi
    have hl := fd_le n p
    rw [fd_s] at hi
    split at hi
    · exact ih i hi
    · split at hi
      · exact ih i (by omega)
      · rename_i g h
        rcases Nat.lt_or_ge i n with e | e
        · exact ih i (by omega)
        · have : i = n := by omega
          subst this
          simpa using h
theorem fd_yes (n : Nat) (p : Nat → Bool) (h : fd n p < n) : p (fd n p) = true := by
  induction n with
  | zero => exact absurd h (Nat.not_lt_zero _)
  | succ n ih =>
    rw [fd_s] at h ⊢
    split at h
    · rename_i g
      rw [if_pos g]
      exact ih g
    · rename_i g
      rw [if_neg g]
      split at h
      · rename_i g2
        rw [if_pos g2]
        exact g2
      · omega
/-- so it is the first -/
theorem fd_is {n i : Nat} {p : Nat → Bool} (hi : i ≤ n) (h0 : ∀ j, j < i → p j = false) (h1 : i < n → p i = true) : fd n p = i := by
  have hl := fd_le n p
  rcases Nat.lt_trichotomy (fd n p) i with e | e | e
  · have a := fd_yes n p (by omega)
    rw [h0 _ e] at a
    exact absurd a (by decide)
  · exact e
  · have a := fd_no n p i e
    rw [h1 (by omega)] at a
    exact absurd a (by decide)
theorem fd_cg {n : Nat} {p q : Nat → Bool} (h : ∀ i, i < n → p i = q i) : fd n p = fd n q := by
  induction n with
  | zero => rfl
  | succ n ih => rw [fd_s, fd_s, h n (Nat.lt_succ_self n), ih (fun i hi => h i (Nat.lt_succ_of_lt hi))]
/-- the first, or -1 -/
def fI (n : Nat) (p : Nat → Bool) : Int32 := if fd n p < n then nI (fd n p) else -1
theorem fI_at {n i : Nat} {p : Nat → Bool} (hi : i < n) (h0 : ∀ j, j < i → p j = false) (h1 : p i = true) : fI n p = nI i := by
  have e := fd_is (Nat.le_of_lt hi) h0 (fun _ => h1)
  unfold fI
  rw [e, if_pos hi]
theorem fI_no {n : Nat} {p : Nat → Bool} (h0 : ∀ j, j < n → p j = false) : fI n p = -1 := by
  have e := fd_is (Nat.le_refl n) h0 (fun h => absurd h (Nat.lt_irrefl n))
  unfold fI
  rw [e, if_neg (Nat.lt_irrefl n)]
theorem all_s {i : Nat} {p : Nat → Bool} (h0 : ∀ j, j < i → p j = false) (h1 : p i = false) : ∀ j, j < i + 1 → p j = false := by
  intro j hj
  rcases Nat.lt_or_ge j i with e | e
  · exact h0 j e
  · have : j = i := by omega
    subst this
    exact h1
theorem bs_none (n : Nat) : bs n (fun _ => false) = 0 := by
  induction n with
  | zero => rfl
  | succ n ih => rw [bs_s, ih]; rfl
theorem nf {b : Bool} (h : ¬ b = true) : b = false := by cases b; rfl; exact absurd rfl h
/-- for i from 0 below e: the counter, two ints carried -/
theorem lpc3 (W : Nat → Int32 → Int32 → Int32 → St → Prop) (e : Nat) (he : e < 2 ^ 31) (I : Nat → Int32 → Int32 → St → Prop) (hx : ∀ (n : Nat) (v w : Int32) (σ : St), I e v w σ → W (n + 1) v w (nI e) σ) (hs : ∀ (n i : Nat) (v w : Int32) (σ : St), i < e → I i v w σ → (∀ (v' w' : Int32) (τ : St), I (i + 1) v' w' τ → W n v' w' (nI (i + 1)) τ) → W (n + 1) v w (nI i) σ) (v w : Int32) (σ : St) (h : I 0 v w σ) : ∃ n, W n v w 0 σ := by
  have key : ∀ (k i : Nat) (v w : Int32) (σ : St), i ≤ e → e - i < k → I i v w σ → W k v w (nI i) σ := by
    intro k
    induction k with
    | zero => intro i v w σ _ h; omega
    | succ k ih =>
      intro i v w σ hi hk hI
      rcases Nat.lt_or_ge i e with h1 | h1
      · exact hs k i v w σ h1 hI (fun v' w' τ hτ => ih (i + 1) v' w' τ h1 (by omega) hτ)
      · have : i = e := by omega
        subst this
        exact hx k v w σ hI
  exact ⟨e + 1, by rw [← nI_0]; exact key (e + 1) 0 v w σ (Nat.zero_le _) (by omega) h⟩
/-- a tested decision on the truth of an int of 0 or 1 -/
theorem bI_d {b : Bool} {A B : Prop} (h0 : b = false → A) (h1 : b = true → B) : (bI b = 0 → A) ∧ (¬ bI b = 0 → B) := by
  cases b
  · exact ⟨fun _ => h0 rfl, fun n => absurd rfl n⟩
  · exact ⟨fun e => absurd e (by decide), fun _ => h1 rfl⟩
theorem bI_e {b : Bool} {A B : Prop} (h0 : b = false → A) (h1 : b = true → B) : (¬ bI b = 0 → B) ∧ (bI b = 0 → A) := ⟨(bI_d h0 h1).2, (bI_d h0 h1).1⟩
