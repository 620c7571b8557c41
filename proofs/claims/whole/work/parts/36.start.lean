/-! PURE: belts thrown on, what is turned by them -/
def wo (W : Vw) (S : Nat → Bool) : Vw := fun x y => if x = 14 then (if S y = true then 1 else 0) else W x y
theorem wo_f {W : Vw} {S : Nat → Bool} {x : Nat} (h : ¬ x = 14) (y : Nat) : wo W S x y = W x y := if_neg h
theorem wo_14 {W : Vw} {S : Nat → Bool} {y : Nat} : wo W S 14 y = 1 ↔ S y = true := by
  unfold wo
  rw [if_pos rfl]
  cases S y <;> simp
theorem wo_iv {W : Vw} (hv : Iv W) (S : Nat → Bool) : Iv (wo W S) := by
  obtain ⟨h1, h2, h3, h4, h5, h6, h7, h8⟩ := hv
  refine ⟨h1, h2, h3, ?_, h5, h6, h7, h8⟩
  intro j hj
  obtain ⟨b1, b2, b3, b4, b5, b6, b7, b8⟩ := h4 j hj
  refine ⟨b1, b2, b3, b4, b5, b6, ?_, b8⟩
  show (if S j = true then 1 else 0) ≤ 1
  split <;> omega
def ts (W : Vw) (S : Nat → Bool) (s : Nat) : Bool := decide (s = 0) || !nn (W 0 4) (fun k => S k && decide (W 12 k = s))
theorem ts_t {W : Vw} {S : Nat → Bool} {s : Nat} : ts W S s = true ↔ s = 0 ∨ ∃ k, k < W 0 4 ∧ S k = true ∧ W 12 k = s := by
  unfold ts
  rw [Bool.or_eq_true, Bool.not_eq_true', nn_f]
  simp
def Cl (W : Vw) (S : Nat → Bool) : Prop := (∀ k, k < W 0 4 → S k = true → W 14 k = 1) ∧ ∀ k, k < W 0 4 → S k = true → ts W S (W 11 k) = true
theorem T_ts {W : Vw} (hv : Iv W) {S : Nat → Bool} (hC : Cl W S) : ∀ r s, rk W s < r → ((0 < (T (wo W S) s).1 ↔ ts W S s = true) ∧ (ts W S s = true → T (wo W S) s = T W s)) := by
  have hvS := wo_iv hv S
  have hc := hv.c
  intro r
  induction r with
  | zero => intro s h; exact absurd h (Nat.not_lt_zero _)
  | succ r ih =>
    intro s hr
    by_cases s0 : s = 0
    · subst s0
      have e1 : (T (wo W S) 0).1 = W 0 1 := rfl
      have e2 : ts W S 0 = true := ts_t.mpr (Or.inl rfl)
      refine ⟨⟨fun _ => e2, fun _ => by rw [e1]; omega⟩, fun _ => rfl⟩
    · cases hts : ts W S s
      · refine ⟨⟨fun h => ?_, fun h => absurd h (by decide)⟩, fun h => absurd h (by decide)⟩
        cases hd : dv (wo W S) (wo W S 0 4) s with
        | none => rw [T_none s0 hd] at h; exact absurd h (by decide)
        | some k =>
          have hk := dv_some hd
          have : ts W S s = true := ts_t.mpr (Or.inr ⟨k, hk.1, wo_14.mp hk.2.2, hk.2.1⟩)
          rw [hts] at this
          exact absurd this (by decide)
      · rcases ts_t.mp hts with z | ⟨k, hk, sk, e⟩
        · exact absurd z s0
        · have hr1 := rk_lt hv hk
          rw [e] at hr1
          have hb := hv.b hk
          have hd := hC.2 k hk sk
          obtain ⟨i1, i2⟩ := ih (W 11 k) (by omega)
          have t1 := T_on hvS (k := k) hk (wo_14.mpr sk)
          have t2 := T_on hv hk (hC.1 k hk sk)
          have t1' : T (wo W S) s = ((T (wo W S) (W 11 k)).1 * av W k, (T (wo W S) (W 11 k)).2.1 * W 16 k, (T (wo W S) (W 11 k)).2.2 * wy W k) := by
            rw [← e]; exact t1
          have eq : T (wo W S) s = T W s := by
            rw [t1', i2 hd, ← e, t2]
          have pos : 0 < (T (wo W S) s).1 := by
            rw [t1']
            have := i1.mpr hd
            have ha : 0 < av W k := by unfold av; split <;> omega
            exact Nat.mul_pos this ha
          exact ⟨⟨fun _ => rfl, fun _ => pos⟩, fun _ => eq⟩
/-- a sum -/
def su (n : Nat) (g : Nat → Nat) : Nat := match n with
  | 0 => 0
  | n + 1 => su n g + g n
theorem su_s (n : Nat) (g : Nat → Nat) : su (n + 1) g = su n g + g n := rfl
theorem su_cg {n : Nat} {g h : Nat → Nat} (e : ∀ i, i < n → g i = h i) : su n g = su n h := by
  induction n with
  | zero => rfl
  | succ n ih => rw [su_s, su_s, ih (fun i hi => e i (by omega)), e n (by omega)]
theorem su_le {n : Nat} {g h : Nat → Nat} (e : ∀ i, i < n → g i ≤ h i) : su n g ≤ su n h := by
  induction n with
  | zero => exact Nat.le_refl 0
  | succ n ih =>
    rw [su_s, su_s]
    have := ih (fun i hi => e i (by omega))
    have := e n (by omega)
    omega
theorem su_add {n : Nat} {g h f : Nat → Nat} (e : ∀ i, i < n → f i = g i + h i) : su n f = su n g + su n h := by
  induction n with
  | zero => rfl
  | succ n ih =>
    rw [su_s, su_s, su_s, ih (fun i hi => e i (by omega)), e n (by omega)]
    omega
theorem su_bd {n b : Nat} {g : Nat → Nat} (e : ∀ i, i < n → g i ≤ b) : su n g ≤ n * b := by
  induction n with
  | zero => exact Nat.zero_le _
  | succ n ih =>
    rw [su_s, Nat.add_mul]
    have := ih (fun i hi => e i (by omega))
    have := e n (by omega)
    omega
theorem sm_su (W : Vw) (n : Nat) (p : Nat → Bool) : sm W n p = su n (fun i => if p i = true then ld W i else 0) := by
  induction n with
  | zero => rfl
  | succ n ih => unfold sm; rw [su_s, ih]
theorem ld_le {W : Vw} (hv : Iv W) {m : Nat} (hm : m < W 0 3) : ld W m ≤ 109980000 := by
  have h1 := (hv.m hm).2.1
  have h2 := cu_le W (W 3 m)
  have h3 : W 4 m * cu W (W 3 m) ≤ 10998 * 1000000 := Nat.mul_le_mul h1 h2
  unfold ld
  omega
theorem sm_bd {W : Vw} (hv : Iv W) (p : Nat → Bool) : sm W (W 0 3) p < 2 ^ 31 := by
  have hc := hv.c
  rw [sm_su]
  have := su_bd (n := W 0 3) (b := 109980000) (g := fun i => if p i = true then ld W i else 0) (fun i hi => by
    show (if p i = true then ld W i else 0) ≤ _
    have := ld_le hv hi
    split <;> omega)
  omega
/-- the load when some belts are on -/
def LSm (W : Vw) (S : Nat → Bool) : Nat := su (W 0 3) (fun m => if (mA W m && ts W S (W 3 m)) = true then ld W m else 0)
theorem cu_z {W : Vw} {s : Nat} (h : (T W s).1 = 0) : cu W s = 0 := by
  unfold cu
  rw [h, Nat.zero_div]
  rfl
theorem ld_wo (W : Vw) (S : Nat → Bool) (m : Nat) : ld (wo W S) m = W 4 m * cu (wo W S) (W 3 m) / 100 := by
  unfold ld
  rw [wo_f (by omega), wo_f (by omega)]
theorem cu_T {W W' : Vw} {s : Nat} (h : T W' s = T W s) : cu W' s = cu W s := by
  unfold cu
  rw [h]
theorem mA_wo (W : Vw) (S : Nat → Bool) (m : Nat) : mA (wo W S) m = mA W m := by
  unfold mA
  rw [wo_f (by omega)]
theorem sm_wo {W : Vw} (hv : Iv W) {S : Nat → Bool} (hC : Cl W S) : sm (wo W S) (W 0 3) (mA (wo W S)) = LSm W S := by
  rw [sm_su]
  refine su_cg (fun m hm => ?_)
  have h7 := rk_7 hv (W 3 m)
  obtain ⟨t1, t2⟩ := T_ts hv hC 8 (W 3 m) (by omega)
  rw [mA_wo, ld_wo]
  cases ha : mA W m
  · rw [Bool.false_and, if_neg (by decide), if_neg (by decide)]
  · rw [Bool.true_and]
    cases ht : ts W S (W 3 m)
    · have z : (T (wo W S) (W 3 m)).1 = 0 := by
        rcases Nat.eq_zero_or_pos (T (wo W S) (W 3 m)).1 with z | z
        · exact z
        · rw [t1.mp z] at ht; exact absurd ht (by decide)
      rw [cu_z z, Nat.mul_zero, if_pos rfl, if_neg (by decide)]
    · rw [cu_T (t2 ht), if_pos rfl, if_pos rfl]
      unfold ld
      rfl
theorem LS_le (W : Vw) (S : Nat → Bool) : LSm W S ≤ sm W (W 0 3) (mA W) := by
  rw [sm_su]
  refine su_le (fun m _ => ?_)
  cases mA W m <;> cases ts W S (W 3 m) <;> simp
def JL (W : Vw) (k : Nat) : Nat := su (W 0 3) (fun m => if (mA W m && decide (W 3 m = W 12 k)) = true then ld W m else 0)
def adS (S : Nat → Bool) (k : Nat) : Nat → Bool := fun j => S j || decide (j = k)
theorem ts_ad {W : Vw} (hv : Iv W) {S : Nat → Bool} {k : Nat} (hk : k < W 0 4) (s : Nat) : ts W (adS S k) s = (ts W S s || decide (s = W 12 k)) := by
  have e : ts W (adS S k) s = true ↔ (ts W S s || decide (s = W 12 k)) = true := by
    rw [Bool.or_eq_true, ts_t, ts_t]
    unfold adS
    constructor
    · rintro (z | ⟨j, hj, sj, e⟩)
      · exact Or.inl (Or.inl z)
      · rw [Bool.or_eq_true] at sj
        rcases sj with sj | sj
        · exact Or.inl (Or.inr ⟨j, hj, sj, e⟩)
        · right
          rw [of_decide_eq_true sj] at e
          exact decide_eq_true e.symm
    · rintro ((z | ⟨j, hj, sj, e⟩) | z)
      · exact Or.inl z
      · exact Or.inr ⟨j, hj, by rw [sj]; rfl, e⟩
      · exact Or.inr ⟨k, hk, by simp, (of_decide_eq_true z).symm⟩
  cases h1 : ts W (adS S k) s <;> cases h2 : (ts W S s || decide (s = W 12 k))
  · rfl
  · rw [h1, h2] at e; exact absurd (e.mpr rfl) (by decide)
  · rw [h1, h2] at e; exact absurd (e.mp rfl) (by decide)
  · rfl
theorem Cl_ad {W : Vw} (hv : Iv W) {S : Nat → Bool} (hC : Cl W S) {k : Nat} (hk : k < W 0 4) (on : W 14 k = 1) (hd : ts W S (W 11 k) = true) : Cl W (adS S k) := by
  refine ⟨fun j hj sj => ?_, fun j hj sj => ?_⟩
  · unfold adS at sj
    rw [Bool.or_eq_true] at sj
    rcases sj with sj | sj
    · exact hC.1 j hj sj
    · rw [of_decide_eq_true sj]; exact on
  · rw [ts_ad hv hk]
    unfold adS at sj
    rw [Bool.or_eq_true] at sj
    rcases sj with sj | sj
    · rw [hC.2 j hj sj]; rfl
    · rw [of_decide_eq_true sj, hd]; rfl
theorem ts_new {W : Vw} (hv : Iv W) {S : Nat → Bool} {k : Nat} (hk : k < W 0 4) (ns : S k = false) : ts W S (W 12 k) = false := by
  cases h : ts W S (W 12 k)
  · rfl
  · rcases ts_t.mp h with z | ⟨j, hj, sj, e⟩
    · have := (hv.b hk).2.2.2.1
      omega
    · rw [hv.dj hj hk e, ns] at sj
      exact absurd sj (by decide)
theorem LS_ad {W : Vw} (hv : Iv W) {S : Nat → Bool} {k : Nat} (hk : k < W 0 4) (ns : S k = false) : LSm W (adS S k) = LSm W S + JL W k := by
  refine su_add (fun m _ => ?_)
  show (if (mA W m && ts W (adS S k) (W 3 m)) = true then ld W m else 0) = (if (mA W m && ts W S (W 3 m)) = true then ld W m else 0) + (if (mA W m && decide (W 3 m = W 12 k)) = true then ld W m else 0)
  rw [ts_ad hv hk]
  by_cases z : W 3 m = W 12 k
  · rw [z, ts_new hv hk ns]
    cases mA W m <;> simp
  · rw [decide_eq_false z]
    cases mA W m <;> cases ts W S (W 3 m) <;> simp
/-- the most that one of some belts adds -/
def mxj (W : Vw) (n : Nat) (p : Nat → Bool) : Nat := match n with
  | 0 => 0
  | n + 1 => if p n = true ∧ mxj W n p < JL W n then JL W n else mxj W n p
theorem mxj_s (W : Vw) (n : Nat) (p : Nat → Bool) : mxj W (n + 1) p = if p n = true ∧ mxj W n p < JL W n then JL W n else mxj W n p := rfl
theorem mxj_cg {W : Vw} {n : Nat} {p q : Nat → Bool} (h : ∀ i, i < n → p i = q i) : mxj W n p = mxj W n q := by
  induction n with
  | zero => rfl
  | succ n ih => rw [mxj_s, mxj_s, h n (by omega), ih (fun i hi => h i (by omega))]
theorem mxj_ad {W : Vw} {S : Nat → Bool} {k : Nat} (ns : S k = false) : ∀ n, k < n → mxj W n (adS S k) = if mxj W n S < JL W k then JL W k else mxj W n S := by
  intro n
  induction n with
  | zero => intro h; exact absurd h (Nat.not_lt_zero _)
  | succ n ih =>
    intro hk
    rw [mxj_s, mxj_s]
    by_cases e : k = n
    · subst e
      have e1 : mxj W k (adS S k) = mxj W k S := mxj_cg (fun i hi => by unfold adS; rw [decide_eq_false (show ¬ i = k by omega), Bool.or_false])
      have e2 : adS S k k = true := by unfold adS; simp
      rw [e1, e2, ns]
      simp
    · have e1 : adS S k n = S n := by unfold adS; rw [decide_eq_false (fun z : n = k => e z.symm), Bool.or_false]
      rw [ih (by omega), e1]
      cases S n
      · simp
      · simp only [true_and]
        (repeat' split) <;> omega
theorem mxj_bd {W : Vw} (hv : Iv W) (p : Nat → Bool) : ∀ n, mxj W n p < 2 ^ 31 := by
  have jl : ∀ k, JL W k < 2 ^ 31 := fun k => by
    have hc := hv.c
    have := su_bd (n := W 0 3) (b := 109980000) (g := fun m => if (mA W m && decide (W 3 m = W 12 k)) = true then ld W m else 0) (fun i hi => by
      show (if (mA W i && decide (W 3 i = W 12 k)) = true then ld W i else 0) ≤ _
      have := ld_le hv hi
      split <;> omega)
    unfold JL
    omega
  intro n
  induction n with
  | zero => exact (show (0 : Nat) < 2 ^ 31 by decide)
  | succ n ih =>
    rw [mxj_s]
    split
    · exact jl n
    · exact ih
theorem JL_bd {W : Vw} (hv : Iv W) (k : Nat) : JL W k < 2 ^ 31 := by
  have hc := hv.c
  have := su_bd (n := W 0 3) (b := 109980000) (g := fun m => if (mA W m && decide (W 3 m = W 12 k)) = true then ld W m else 0) (fun i hi => by
    show (if (mA W i && decide (W 3 i = W 12 k)) = true then ld W i else 0) ≤ _
    have := ld_le hv hi
    split <;> omega)
  unfold JL
  omega
/-- the next belt -/
def gp (W : Vw) (S : Nat → Bool) (k : Nat) : Bool := bn W k && (!S k && ts W S (W 11 k))
/-- the order, as digits, of l more belts -/
def frd (W : Vw) : Nat → (Nat → Bool) → Nat → Int32 := fun l => Nat.rec (fun _ d => nI d) (fun _ ih S d => if fd (W 0 4) (gp W S) < W 0 4 then ih (adS S (fd (W 0 4) (gp W S))) (d * 10 + fd (W 0 4) (gp W S)) else -1) l
theorem frd_0 (W : Vw) (S : Nat → Bool) (d : Nat) : frd W 0 S d = nI d := rfl
theorem frd_s (W : Vw) (l : Nat) (S : Nat → Bool) (d : Nat) : frd W (l + 1) S d = if fd (W 0 4) (gp W S) < W 0 4 then frd W l (adS S (fd (W 0 4) (gp W S))) (d * 10 + fd (W 0 4) (gp W S)) else -1 := rfl
theorem gp_t {W : Vw} {S : Nat → Bool} {k : Nat} : gp W S k = true ↔ W 14 k = 1 ∧ S k = false ∧ ts W S (W 11 k) = true := by
  unfold gp bn
  rw [Bool.and_eq_true, Bool.and_eq_true, Bool.not_eq_true']
  simp
/-- when no next belt is, all that turn are turned -/
theorem ts_end {W : Vw} (hv : Iv W) {S : Nat → Bool} (hC : Cl W S) (hn : ∀ k, k < W 0 4 → gp W S k = false) : ∀ r s, rk W s < r → 0 < (T W s).1 → ts W S s = true := by
  intro r
  induction r with
  | zero => intro s h; exact absurd h (Nat.not_lt_zero _)
  | succ r ih =>
    intro s hr hp
    by_cases s0 : s = 0
    · exact ts_t.mpr (Or.inl s0)
    · cases hd : dv W (W 0 4) s with
      | none => rw [T_none s0 hd] at hp; exact absurd hp (by decide)
      | some k =>
        have hk := dv_some hd
        have hr1 := rk_lt hv hk.1
        rw [hk.2.1] at hr1
        have hT := T_some hv hd
        rw [hT] at hp
        have hdp : 0 < (T W (W 11 k)).1 := by
          rcases Nat.eq_zero_or_pos (T W (W 11 k)).1 with z | z
          · have hp' : 0 < (T W (W 11 k)).1 * av W k := hp
            rw [z, Nat.zero_mul] at hp'
            omega
          · exact z
        have ht := ih (W 11 k) (by omega) hdp
        cases sk : S k
        · have := gp_t.mpr ⟨hk.2.2, sk, ht⟩
          rw [hn k hk.1] at this
          exact absurd this (by decide)
        · exact ts_t.mpr (Or.inr ⟨k, hk.1, sk, hk.2.1⟩)
theorem LS_end {W : Vw} (hv : Iv W) {S : Nat → Bool} (hC : Cl W S) (hn : ∀ k, k < W 0 4 → gp W S k = false) : LSm W S = sm W (W 0 3) (mA W) := by
  rw [sm_su]
  refine su_cg (fun m _ => ?_)
  have h7 := rk_7 hv (W 3 m)
  by_cases z : 0 < (T W (W 3 m)).1
  · rw [ts_end hv hC hn 8 _ (by omega) z, Bool.and_true]
  · have : ld W m = 0 := by
      unfold ld
      rw [cu_z (by omega), Nat.mul_zero]
    rw [this]
    cases mA W m <;> cases ts W S (W 3 m) <;> rfl
-- the class
theorem sX_firstOn {W : Vw} {ids : List Nat} {σ : St} (hv : Iv W) (hM : MX W ids σ) {S : Nat → Bool} {x1 x2 : Int32} (h1 : ∀ s, s < 8 → bt x1 s = ts W S s) (h2 : ∀ k, k < W 0 4 → bt x2 k = S k) {post : Int32 → St → Prop} (h : post (fI (W 0 4) (gp W S)) σ) : wX11_firstOnTurning ids x1 x2 σ post := by
  have hc := hv.c
  refine lpc1 (wX11_firstOnTurning_2 ids post x1 x2) (W 0 4) (by omega) (fun i τ => τ = σ ∧ ∀ j, j < i → gp W S j = false) ?_ ?_ σ ⟨rfl, fun j hj => absurd hj (Nat.not_lt_zero _)⟩
  · rintro n τ ⟨rfl, h0⟩
    rw [wX11_firstOnTurning_2_s]
    refine dt (by rw [hM.bs]; exact nI_le (Nat.le_refl _) (by omega)) ?_
    rw [← fI_no h0]
    exact h
  · rintro n i τ hi ⟨rfl, h0⟩ kk
    rw [wX11_firstOnTurning_2_s]
    obtain ⟨br, -, b0, b1, b2, b3, b6, b7, b8⟩ := hM.b hi
    have hb := hv.b hi
    have no : gp W S i = false → wX11_firstOnTurning_55 ids (wX11_firstOnTurning_2 ids post x1 x2 n) post x1 x2 (nI i) τ := by
      rintro e v rfl
      rw [nI_1]
      exact kk _ ⟨rfl, all_s h0 e⟩
    have ng : ¬ (W 14 i = 1 ∧ S i = false ∧ ts W S (W 11 i) = true) → gp W S i = false := fun c => by
      cases g : gp W S i
      · rfl
      · exact absurd (gp_t.mp g) c
    refine df (by rw [hM.bs]; exact nI_ge hi (by omega)) ⟨vin (by omega) (by omega), bO W i, by rw [nI_clamp (by omega)]; exact br, hM.okB hv hi, ?_⟩
    rw [b8, b1, one_or hb.2.2.2.2.2.2.1, bt_t0 x2 (i := i) (by omega), bt_t x1 (i := W 11 i) (by omega), h2 i hi, h1 _ (by omega)]
    by_cases on : W 14 i = 1
    · refine df (by simp [on]) ?_
      by_cases si : S i = false
      · refine dn si ?_
        by_cases t : ts W S (W 11 i) = true
        · refine dn t ?_
          rw [← fI_at hi h0 (gp_t.mpr ⟨on, si, t⟩)]
          exact h
        · exact dm t (no (ng (fun z => t z.2.2)))
      · exact dm si (no (ng (fun z => si z.2.1)))
    · exact dt on (no (ng (fun z => on z.1)))
theorem sX_firstOrder {W : Vw} {ids : List Nat} {σ : St} (hv : Iv W) (hM : MX W ids σ) {post : Int32 → St → Prop} (h : post (frd W (ct (W 0 4) (bn W)) (fun _ => false) 0) σ) : wX11_firstOrder ids σ post := by
  have hc := hv.c
  refine sX_beltsOn hv hM ?_
  have hl := ct_le (W 0 4) (bn W)
  have key : ∀ l, l ≤ 7 → ∀ (S : Nat → Bool) (d : Nat) (x1 x2 : Int32), (∀ s, s < 8 → bt x1 s = ts W S s) → (∀ k, k < W 0 4 → bt x2 k = S k) → post (frd W l S d) σ → ∃ N, wX11_firstOrder_15 ids post N (nI d) x2 x1 (nI l) σ := by
    intro l
    induction l with
    | zero =>
      intro _ S d x1 x2 _ _ hp
      refine ⟨1, ?_⟩
      rw [wX11_firstOrder_15_s, nI_0]
      exact dt (by decide) hp
    | succ l ih =>
      intro hl7 S d x1 x2 h1 h2 hp
      rw [frd_s] at hp
      by_cases g : fd (W 0 4) (gp W S) < W 0 4
      · rw [if_pos g] at hp
        have hk := g
        have hbk := hv.b g
        obtain ⟨N, hN⟩ := ih (by omega) (adS S (fd (W 0 4) (gp W S))) (d * 10 + fd (W 0 4) (gp W S)) (x1 ||| ((1 : Int32) <<< (nI (W 12 (fd (W 0 4) (gp W S))) &&& 31))) (x2 ||| ((1 : Int32) <<< (nI (fd (W 0 4) (gp W S)) &&& 31))) (fun s hs => by rw [bt_or, h1 s hs, bt_one _ (by omega) s (by omega), ts_ad hv hk]) (fun k hk2 => by rw [bt_or, h2 k hk2, bt_one _ (by omega) k (by omega)]; rfl) hp
        refine ⟨N + 1, ?_⟩
        rw [wX11_firstOrder_15_s]
        refine df (nI_nle (by omega) (by omega)) (sX_firstOn hv hM h1 h2 ?_)
        rw [fI_y g]
        refine dm (ne_m1 (by omega)) ?_
        have e10 : (10 : Int32) = nI 10 := rfl
        rw [e10, nI_mul, nI_add]
        rintro v5 rfl v6 rfl
        refine ⟨vin (by omega) (by omega), bO W (fd (W 0 4) (gp W S)), by rw [nI_clamp (by omega)]; exact (hM.b g).1, hM.okB hv g, ?_⟩
        rw [(hM.b g).2.2.2.2.1]
        rintro v10 rfl v11 rfl
        have em : nI (l + 1) + -1 = nI l := by rw [← Int32.sub_eq_add_neg, nI_pred]
        rw [em]
        exact hN
      · rw [if_neg g] at hp
        refine ⟨1, ?_⟩
        rw [wX11_firstOrder_15_s]
        refine df (nI_nle (by omega) (by omega)) (sX_firstOn hv hM h1 h2 ?_)
        have e : fI (W 0 4) (gp W S) = -1 := if_neg g
        rw [e]
        exact dn rfl hp
  have k0 := key (ct (W 0 4) (bn W)) (by omega) (fun _ => false) 0 1 0 (fun s hs => by
    have e : (1 : Int32) = (1 : Int32) <<< (nI 0 &&& 31) := by decide
    rw [e, bt_one 0 (by omega) s (by omega)]
    unfold ts
    have : nn (W 0 4) (fun k => false && decide (W 12 k = s)) = true := nn_t.mpr (fun i _ => rfl)
    rw [this]
    simp) (fun k _ => bt_0 k) h
  exact k0
theorem sX_mostJerk {W : Vw} {ids : List Nat} {σ : St} (hv : Iv W) (hS : SX W ids σ) {post : Int32 → St → Prop} (h : post (nI (mxj W (W 0 4) (bn W))) σ) : wX11_mostJerk ids σ post := by
  have hc := hv.c
  have hM := hS.1
  refine lpc2 (wX11_mostJerk_4 ids post) (W 0 4) (by omega) (fun i v τ => τ = σ ∧ v = nI (mxj W i (bn W))) ?_ ?_ 0 σ ⟨rfl, rfl⟩
  · rintro n v τ ⟨rfl, rfl⟩
    rw [wX11_mostJerk_4_s]
    exact dt (by rw [hM.bs]; exact nI_le (Nat.le_refl _) (by omega)) h
  · rintro n i v τ hi ⟨rfl, rfl⟩ kk
    rw [wX11_mostJerk_4_s]
    obtain ⟨br, -, b0, b1, b2, b3, b6, b7, b8⟩ := hM.b hi
    have hb := hv.b hi
    have go : ∀ v', v' = nI (mxj W (i + 1) (bn W)) → wX11_mostJerk_50 ids (wX11_mostJerk_4 ids post n) post v' (nI i) τ := by
      rintro _ rfl v1 rfl
      rw [nI_1]
      exact kk _ _ ⟨rfl, rfl⟩
    refine df (by rw [hM.bs]; exact nI_ge hi (by omega)) ⟨vin (by omega) (by omega), bO W i, by rw [nI_clamp (by omega)]; exact br, hM.okB hv hi, ?_⟩
    rw [b8, b2, one_or hb.2.2.2.2.2.2.1]
    by_cases on : W 14 i = 1
    · refine df (by simp [on]) (sX_loadedOn hv hS _ ?_)
      have ej : sm W (W 0 3) (mOn W ((1 : Int32) <<< (nI (W 12 i) &&& 31))) = JL W i := by
        rw [sm_su]
        refine su_cg (fun m hm => ?_)
        have h3 := (hv.m hm).1
        unfold mOn
        rw [bt_one _ (by omega) _ (by omega)]
        rfl
      rw [ej]
      rintro v9 rfl
      have b1 := mxj_bd hv (bn W) i
      have b2 := JL_bd hv i
      have q : nI (mxj W i (bn W)) < nI (JL W i) ↔ mxj W i (bn W) < JL W i := nI_ltI b1 b2
      have ob : bn W i = true := by unfold bn; simp [on]
      refine go _ ?_
      rw [mxj_s]
      by_cases g : mxj W i (bn W) < JL W i
      · rw [if_pos (q.mpr g), if_pos ⟨ob, g⟩]
      · rw [if_neg (fun z => g (q.mp z)), if_neg (fun z => g z.2)]
    · refine dt on (go _ ?_)
      rw [mxj_s, if_neg (fun z => by unfold bn at z; simp [on] at z)]
