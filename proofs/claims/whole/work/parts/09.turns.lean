/-! PURE: how shafts turn -/
/-- the belt that is on and drives a shaft, among the first n -/
def dv (W : Vw) (n s : Nat) : Option Nat := match n with
  | 0 => none
  | n + 1 => if W 12 n = s ∧ W 14 n = 1 then some n else dv W n s
theorem dv_some {W : Vw} {n s k : Nat} (h : dv W n s = some k) : k < n ∧ W 12 k = s ∧ W 14 k = 1 := by
  induction n with
  | zero => exact absurd h (by simp [dv])
  | succ n ih =>
    unfold dv at h
    split at h
    · rename_i c
      obtain rfl := Option.some.inj h
      exact ⟨Nat.lt_succ_self _, c⟩
    · have := ih h
      exact ⟨Nat.lt_succ_of_lt this.1, this.2⟩
theorem dv_none {W : Vw} {n s : Nat} (h : dv W n s = none) : ∀ k, k < n → W 12 k = s → ¬ W 14 k = 1 := by
  induction n with
  | zero => intro k hk; exact absurd hk (Nat.not_lt_zero _)
  | succ n ih =>
    unfold dv at h
    split at h
    · exact absurd h (by simp)
    · rename_i c
      intro k hk e on
      rcases Nat.lt_or_ge k n with g | g
      · exact ih h k g e on
      · have : k = n := by omega
        subst this
        exact c ⟨e, on⟩
theorem dv_is {W : Vw} (hv : Iv W) {k : Nat} (hk : k < W 0 4) (on : W 14 k = 1) : dv W (W 0 4) (W 12 k) = some k := by
  cases h : dv W (W 0 4) (W 12 k) with
  | none => exact absurd on (dv_none h k hk rfl)
  | some j =>
    have := dv_some h
    rw [hv.dj this.1 hk this.2.1]
/-- the place of a shaft in the order: 0, or one more than the first place of the belt that drives it -/
def rkN (W : Vw) (n s : Nat) : Nat := match n with
  | 0 => 0
  | n + 1 => if rkN W n s = 0 then (if W 12 (W 17 n) = s then n + 1 else 0) else rkN W n s
theorem rkN_le (W : Vw) (n s : Nat) : rkN W n s ≤ n := by
  induction n with
  | zero => exact Nat.le_refl 0
  | succ n ih => unfold rkN; split <;> (try split) <;> omega
theorem rkN_is {W : Vw} {n s r : Nat} (h : rkN W n s = r + 1) : r < n ∧ W 12 (W 17 r) = s := by
  induction n with
  | zero => exact absurd h (by simp [rkN])
  | succ n ih =>
    unfold rkN at h
    split at h
    · split at h
      · rename_i c
        have : n = r := by omega
        subst this
        exact ⟨Nat.lt_succ_self _, c⟩
      · exact absurd h (by omega)
    · have := ih h
      exact ⟨Nat.lt_succ_of_lt this.1, this.2⟩
theorem rkN_low {W : Vw} {n s i : Nat} (hi : i < n) (e : W 12 (W 17 i) = s) : ¬ rkN W n s = 0 ∧ rkN W n s ≤ i + 1 := by
  induction n with
  | zero => exact absurd hi (Nat.not_lt_zero _)
  | succ n ih =>
    unfold rkN
    rcases Nat.lt_or_ge i n with g | g
    · have := ih g
      rw [if_neg this.1]
      exact this
    · have : i = n := by omega
      subst this
      have := rkN_le W i s
      split <;> (try split) <;> omega
def rk (W : Vw) (s : Nat) : Nat := rkN W (W 0 4) s
theorem rk_7 {W : Vw} (hv : Iv W) (s : Nat) : rk W s ≤ 7 := Nat.le_trans (rkN_le _ _ _) (hv.c.2.2.2.2.2)
theorem rk_lt {W : Vw} (hv : Iv W) {k : Nat} (hk : k < W 0 4) : rk W (W 11 k) < rk W (W 12 k) := by
  obtain ⟨i, hi, e⟩ := hv.os hk
  have h0 := rkN_low (W := W) (s := W 12 k) hi (by rw [e])
  obtain ⟨r, hr⟩ : ∃ r, rkN W (W 0 4) (W 12 k) = r + 1 := ⟨rkN W (W 0 4) (W 12 k) - 1, by omega⟩
  have h1 := rkN_is hr
  have h2 : W 17 r = k := hv.dj (hv.ol h1.1) hk h1.2
  unfold rk
  rw [hr]
  rcases Nat.eq_zero_or_pos (rkN W (W 0 4) (W 11 k)) with z | z
  · omega
  · obtain ⟨q, hq⟩ : ∃ q, rkN W (W 0 4) (W 11 k) = q + 1 := ⟨rkN W (W 0 4) (W 11 k) - 1, by omega⟩
    have h3 := rkN_is hq
    obtain ⟨i', hi', e'⟩ := hv.ot (i := r) (j := W 17 q) h1.1 (hv.ol h3.1) (by rw [h3.2, h2])
    have h4 := rkN_low (W := W) (n := W 0 4) (s := W 11 k) (i := i') (by omega) (by rw [e', h3.2])
    omega
/-- what a belt takes over: above, below, way -/
def av (W : Vw) (k : Nat) : Nat := W 15 k + (if W 10 k = 3 then 2 else 0)
def wy (W : Vw) (k : Nat) : Int := if W 10 k = 1 then -1 else 1
/-- turns of a shaft: above, below (not in lowest terms), way; by fuel along the belts -/
def tu (W : Vw) (n s : Nat) : Nat × Nat × Int := match n with
  | 0 => (0, 1, 0)
  | n + 1 => if s = 0 then (W 0 1, 1, 1) else match dv W (W 0 4) s with
    | none => (0, 1, 0)
    | some k => ((tu W n (W 11 k)).1 * av W k, (tu W n (W 11 k)).2.1 * W 16 k, (tu W n (W 11 k)).2.2 * wy W k)
theorem tu_st {W : Vw} (hv : Iv W) : ∀ n m s, rk W s < n → rk W s < m → tu W n s = tu W m s := by
  intro n
  induction n with
  | zero => intro m s h; exact absurd h (Nat.not_lt_zero _)
  | succ n ih =>
    intro m s h1 h2
    obtain ⟨m, rfl⟩ : ∃ q, m = q + 1 := ⟨m - 1, by omega⟩
    unfold tu
    by_cases h0 : s = 0
    · rw [if_pos h0, if_pos h0]
    · rw [if_neg h0, if_neg h0]
      cases hd : dv W (W 0 4) s with
      | none => rfl
      | some k =>
        have hk := dv_some hd
        have hr := rk_lt hv hk.1
        rw [hk.2.1] at hr
        simp only
        rw [ih m (W 11 k) (by omega) (by omega)]
def T (W : Vw) (s : Nat) : Nat × Nat × Int := tu W 8 s
theorem T_0 (W : Vw) : T W 0 = (W 0 1, 1, 1) := rfl
theorem T_none {W : Vw} {s : Nat} (h0 : ¬ s = 0) (h : dv W (W 0 4) s = none) : T W s = (0, 1, 0) := by
  unfold T tu
  rw [if_neg h0, h]
theorem T_some {W : Vw} (hv : Iv W) {s k : Nat} (h : dv W (W 0 4) s = some k) : T W s = ((T W (W 11 k)).1 * av W k, (T W (W 11 k)).2.1 * W 16 k, (T W (W 11 k)).2.2 * wy W k) := by
  have hk := dv_some h
  have hr := rk_lt hv hk.1
  have h7 := rk_7 hv (W 12 k)
  have h0 : ¬ s = 0 := by have := hv.b hk.1; omega
  have e : tu W 7 (W 11 k) = tu W 8 (W 11 k) := tu_st hv 7 8 _ (by omega) (by omega)
  unfold T
  rw [← e]
  show tu W (7 + 1) s = _
  rw [tu, if_neg h0, h]
theorem T_on {W : Vw} (hv : Iv W) {k : Nat} (hk : k < W 0 4) (on : W 14 k = 1) : T W (W 12 k) = ((T W (W 11 k)).1 * av W k, (T W (W 11 k)).2.1 * W 16 k, (T W (W 11 k)).2.2 * wy W k) := T_some hv (dv_is hv hk on)
theorem tu_bd {W : Vw} (hv : Iv W) : ∀ n s, rk W s < n → (tu W n s).1 ≤ 999 * 101 ^ rk W s ∧ 1 ≤ (tu W n s).2.1 ∧ (tu W n s).2.1 ≤ 99 ^ rk W s ∧ ((tu W n s).1 = 0 ↔ (tu W n s).2.2 = 0) ∧ ((tu W n s).2.2 = 0 ∨ (tu W n s).2.2 = 1 ∨ (tu W n s).2.2 = -1) := by
  intro n
  induction n with
  | zero => intro s h; exact absurd h (Nat.not_lt_zero _)
  | succ n ih =>
    intro s h
    have hc := hv.c
    have p1 : 1 ≤ 101 ^ rk W s := Nat.pow_pos (by decide)
    have p2 : 1 ≤ 99 ^ rk W s := Nat.pow_pos (by decide)
    unfold tu
    by_cases h0 : s = 0
    · rw [if_pos h0]
      refine ⟨?_, Nat.le_refl 1, p2, ?_, Or.inr (Or.inl rfl)⟩
      · show W 0 1 ≤ _
        omega
      · show W 0 1 = 0 ↔ (1 : Int) = 0
        constructor
        · intro e; omega
        · intro e; exact absurd e (by decide)
    · rw [if_neg h0]
      cases hd : dv W (W 0 4) s with
      | none => exact ⟨Nat.zero_le _, Nat.le_refl 1, p2, Iff.intro (fun _ => rfl) (fun _ => rfl), Or.inl rfl⟩
      | some k =>
        have hk := dv_some hd
        have hr := rk_lt hv hk.1
        rw [hk.2.1] at hr
        have hb := hv.b hk.1
        obtain ⟨i1, i2, i3, i4, i5⟩ := ih (W 11 k) (by omega)
        have ha : 1 ≤ av W k ∧ av W k ≤ 101 := by unfold av; split <;> omega
        have q1 : 101 ^ rk W (W 11 k) * 101 ≤ 101 ^ rk W s := by
          rw [← Nat.pow_succ]
          exact Nat.pow_le_pow_right (by decide) hr
        have q2 : 99 ^ rk W (W 11 k) * 99 ≤ 99 ^ rk W s := by
          rw [← Nat.pow_succ]
          exact Nat.pow_le_pow_right (by decide) hr
        have hw : wy W k = 1 ∨ wy W k = -1 := by
          unfold wy
          split
          · exact Or.inr rfl
          · exact Or.inl rfl
        refine ⟨?_, ?_, ?_, ?_, ?_⟩
        · show (tu W n (W 11 k)).1 * av W k ≤ _
          have := Nat.mul_le_mul i1 ha.2
          have e : 999 * 101 ^ rk W (W 11 k) * 101 = 999 * (101 ^ rk W (W 11 k) * 101) := Nat.mul_assoc _ _ _
          have := Nat.mul_le_mul_left 999 q1
          omega
        · show 1 ≤ (tu W n (W 11 k)).2.1 * W 16 k
          exact Nat.mul_pos i2 hb.2.2.2.2.2.2.2.2.2.1
        · show (tu W n (W 11 k)).2.1 * W 16 k ≤ _
          exact Nat.le_trans (Nat.mul_le_mul i3 hb.2.2.2.2.2.2.2.2.2.2) q2
        · show (tu W n (W 11 k)).1 * av W k = 0 ↔ (tu W n (W 11 k)).2.2 * wy W k = 0
          rw [Nat.mul_eq_zero, Int.mul_eq_zero, ← i4]
          constructor
          · rintro (e | e)
            · exact Or.inl e
            · omega
          · rintro (e | e)
            · exact Or.inl e
            · rcases hw with w | w <;> rw [w] at e <;> exact absurd e (by decide)
        · show (tu W n (W 11 k)).2.2 * wy W k = 0 ∨ (tu W n (W 11 k)).2.2 * wy W k = 1 ∨ (tu W n (W 11 k)).2.2 * wy W k = -1
          rcases i5 with e | e | e <;> rcases hw with w | w <;> rw [e, w] <;> decide
theorem T_bd {W : Vw} (hv : Iv W) (s : Nat) : (T W s).1 ≤ 999 * 101 ^ 7 ∧ 1 ≤ (T W s).2.1 ∧ (T W s).2.1 ≤ 99 ^ 7 ∧ ((T W s).1 = 0 ↔ (T W s).2.2 = 0) ∧ ((T W s).2.2 = 0 ∨ (T W s).2.2 = 1 ∨ (T W s).2.2 = -1) := by
  have h7 := rk_7 hv s
  obtain ⟨h1, h2, h3, h4⟩ := tu_bd hv 8 s (by omega)
  refine ⟨Nat.le_trans h1 (Nat.mul_le_mul_left _ (Nat.pow_le_pow_right (by decide) h7)), h2, Nat.le_trans h3 (Nat.pow_le_pow_right (by decide) h7), h4⟩
