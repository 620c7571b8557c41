/-! PURE: what hangs on a shaft, and what belts pull -/
def rc (W : Vw) (n s t : Nat) : Bool := match n with
  | 0 => false
  | n + 1 => decide (t = s) || (match dv W (W 0 4) t with
    | none => false
    | some k => rc W n s (W 11 k))
theorem rc_s (W : Vw) (n s t : Nat) : rc W (n + 1) s t = (decide (t = s) || (match dv W (W 0 4) t with
    | none => false
    | some k => rc W n s (W 11 k))) := rfl
theorem rc_st {W : Vw} (hv : Iv W) (s : Nat) : ∀ n m t, rk W t < n → rk W t < m → rc W n s t = rc W m s t := by
  intro n
  induction n with
  | zero => intro m t h; exact absurd h (Nat.not_lt_zero _)
  | succ n ih =>
    intro m t h1 h2
    obtain ⟨m, rfl⟩ : ∃ q, m = q + 1 := ⟨m - 1, by omega⟩
    rw [rc_s, rc_s]
    cases hd : dv W (W 0 4) t with
    | none => rfl
    | some k =>
      have hk := dv_some hd
      have hr := rk_lt hv hk.1
      rw [hk.2.1] at hr
      simp only
      rw [ih m (W 11 k) (by omega) (by omega)]
/-- a shaft hangs on another one, or is it -/
def RC (W : Vw) (s t : Nat) : Bool := rc W 8 s t
theorem RC_none {W : Vw} {s t : Nat} (h : dv W (W 0 4) t = none) : RC W s t = decide (t = s) := by
  show rc W (7 + 1) s t = _
  rw [rc_s, h]
  exact Bool.or_false _
theorem RC_some {W : Vw} (hv : Iv W) {s t k : Nat} (h : dv W (W 0 4) t = some k) : RC W s t = (decide (t = s) || RC W s (W 11 k)) := by
  have hk := dv_some h
  have hr := rk_lt hv hk.1
  have h7 := rk_7 hv (W 12 k)
  have e : rc W 7 s (W 11 k) = rc W 8 s (W 11 k) := rc_st hv s 7 8 _ (by omega) (by omega)
  show rc W (7 + 1) s t = (decide (t = s) || rc W 8 s (W 11 k))
  rw [rc_s, h, ← e]
theorem RC_self (W : Vw) (s : Nat) : RC W s s = true := by
  show rc W (7 + 1) s s = true
  rw [rc_s]
  simp
theorem dv_0 {W : Vw} (hv : Iv W) : dv W (W 0 4) 0 = none := by
  cases h : dv W (W 0 4) 0 with
  | none => rfl
  | some k =>
    have hk := dv_some h
    have := hv.b hk.1
    omega
theorem sX_shaftsFrom {W : Vw} {ids : List Nat} {σ : St} (hv : Iv W) (hM : MX W ids σ) {s : Nat} (hs : s < W 0 0) {post : Int32 → St → Prop} (h : post (bs 8 (RC W s)) σ) : wX6_shaftsFrom ids (nI s) σ post := by
  have hc := hv.c
  rintro v0 rfl
  refine lpc2 (wX6_shaftsFrom_6 ids post) (W 0 4) (by omega) (fun i v τ => τ = σ ∧ (∀ t, 8 ≤ t → t < 32 → bt v t = false) ∧ ∀ t, t < 8 → (dnn W i t → bt v t = RC W s t) ∧ (¬ dnn W i t → bt v t = decide (t = s))) ?_ ?_ _ σ ⟨rfl, ?_, ?_⟩
  · rintro n v τ ⟨rfl, h1, h2⟩
    rw [wX6_shaftsFrom_6_s]
    refine dt (by rw [hM.bs]; exact nI_le (Nat.le_refl _) (by omega)) ?_
    have e : v = bs 8 (RC W s) := bs_eq (by omega) (fun t ht => by
      by_cases g : t < 8
      · rw [(h2 t g).1 (dnn_all hv t)]
        simp [g]
      · rw [h1 t (by omega) ht]
        simp [g])
    rw [e]
    exact h
  · rintro n i v τ hi ⟨rfl, h1, h2⟩ kk
    rw [wX6_shaftsFrom_6_s]
    have hk := hv.ol hi
    have hb := hv.b hk
    obtain ⟨br, -, b0, b1, b2, b3, b6, b7, b8⟩ := hM.b hk
    have go : ∀ v', ((∀ t, 8 ≤ t → t < 32 → bt v' t = false) ∧ ∀ t, t < 8 → (dnn W (i + 1) t → bt v' t = RC W s t) ∧ (¬ dnn W (i + 1) t → bt v' t = decide (t = s))) → wX6_shaftsFrom_58 ids (wX6_shaftsFrom_6 ids post n) post v' (nI i) τ := by
      rintro v' hI v1 rfl
      rw [nI_1]
      exact kk _ _ ⟨rfl, hI⟩
    refine df (by rw [hM.bs]; exact nI_ge hi (by omega)) ⟨vin (by omega) (by omega), ?_⟩
    rw [nI_clamp (by omega), hM.o hi, nI_clamp (by omega)]
    refine ⟨vin (by omega) (by omega), bO W (W 17 i), br, hM.okB hv hk, ?_⟩
    rw [b8, b1, b2, one_or hb.2.2.2.2.2.2.1]
    by_cases on : W 14 (W 17 i) = 1
    · refine df (by simp [on]) ?_
      rw [bt_t v (i := W 11 (W 17 i)) (by omega)]
      have hd := (h2 (W 11 (W 17 i)) (by omega)).1 (dnn_driver hv hi)
      have hR := RC_some hv (s := s) (dv_is hv hk on)
      by_cases b : bt v (W 11 (W 17 i)) = true
      · refine dn b (fun v9 e9 => go v9 ?_)
        subst e9
        refine ⟨fun t g1 g2 => ?_, fun t g => ?_⟩
        · rw [bt_or, h1 t g1 g2, bt_one _ (by omega) t g2]
          have : ¬ t = W 12 (W 17 i) := by omega
          simp [this]
        · rw [bt_or, bt_one _ (by omega) t (by omega)]
          by_cases e : t = W 12 (W 17 i)
          · have z : RC W s t = true := by rw [e, hR, ← hd, b]; exact Bool.or_true _
            refine ⟨fun _ => by rw [z]; simp [e], fun d => absurd (dnn_s.mpr (Or.inr e)) d⟩
          · have e2 : decide (t = W 12 (W 17 i)) = false := by simp [e]
            rw [e2, Bool.or_false]
            refine ⟨fun d => ?_, fun d => (h2 t g).2 (fun z => d (dnn_s.mpr (Or.inl z)))⟩
            rcases dnn_s.mp d with z | z
            · exact (h2 t g).1 z
            · exact absurd z e
      · refine dm b (go v ⟨h1, fun t g => ⟨fun d => ?_, fun d => (h2 t g).2 (fun z => d (dnn_s.mpr (Or.inl z)))⟩⟩)
        rcases dnn_s.mp d with z | z
        · exact (h2 t g).1 z
        · by_cases z2 : dnn W i t
          · exact (h2 t g).1 z2
          · rw [(h2 t g).2 z2, z, hR, ← hd, nf b]
            exact (Bool.or_false _).symm
    · refine dt on (go v ⟨h1, fun t g => ⟨fun d => ?_, fun d => (h2 t g).2 (fun z => d (dnn_s.mpr (Or.inl z)))⟩⟩)
      rcases dnn_s.mp d with z | z
      · exact (h2 t g).1 z
      · exact (h2 t g).1 (by rw [z]; exact Or.inr (Or.inl (dv_off hv hk on)))
  · intro t g1 g2
    rw [bt_one s (by omega) t g2]
    have : ¬ t = s := by omega
    simp [this]
  · intro t g
    rw [bt_one s (by omega) t (by omega)]
    refine ⟨fun d => ?_, fun _ => rfl⟩
    rcases d with d | d | ⟨j, hj, -⟩
    · rw [RC_none (by rw [d]; exact dv_0 hv)]
    · rw [RC_none d]
    · omega
/-- the machines that are on, on shafts that hang on one -/
def mF (W : Vw) (s m : Nat) : Bool := decide (W 8 m = 1) && RC W s (W 3 m)
theorem mOn_F {W : Vw} (hv : Iv W) (s : Nat) {m : Nat} (hm : m < W 0 3) : mOn W (bs 8 (RC W s)) m = mF W s m := by
  have h1 := (hv.m hm).1
  have h2 := hv.c
  have h3 : W 3 m < 8 := by omega
  unfold mOn mF
  rw [bt_bs 8 (by omega) _ _ (by omega)]
  simp [h3]
/-- what a belt pulls -/
def pl (W : Vw) (k : Nat) : Nat := if W 14 k = 1 then sm W (W 0 3) (mF W (W 12 k)) else 0
theorem sX_pull {W : Vw} {ids : List Nat} {σ : St} (hv : Iv W) (hS : SX W ids σ) {k : Nat} (hk : k < W 0 4) {post : Int32 → St → Prop} (h : post (nI (pl W k)) σ) : wX6_pull ids (bO W k) σ post := by
  obtain ⟨-, -, b0, b1, b2, b3, b6, b7, b8⟩ := hS.1.b hk
  have hb := hv.b hk
  unfold wX6_pull
  rw [b8, b2, one_or hb.2.2.2.2.2.2.1]
  by_cases on : W 14 k = 1
  · refine df (by simp [on]) (sX_shaftsFrom hv hS.1 hb.2.2.1 (sX_loadedOn hv hS _ ?_))
    have e : sm W (W 0 3) (mOn W (bs 8 (RC W (W 12 k)))) = pl W k := by
      unfold pl
      rw [if_pos on]
      exact sm_cg (fun m hm => mOn_F hv _ hm)
    rw [e]
    exact h
  · refine dt on ?_
    have e : pl W k = 0 := if_neg on
    rw [e, nI_0] at h
    exact h
/-- the most hours of some machines -/
def mh (W : Vw) (n : Nat) (p : Nat → Bool) : Nat := match n with
  | 0 => 0
  | n + 1 => if p n = true ∧ mh W n p < W 7 n then W 7 n else mh W n p
theorem mh_s (W : Vw) (n : Nat) (p : Nat → Bool) : mh W (n + 1) p = if p n = true ∧ mh W n p < W 7 n then W 7 n else mh W n p := rfl
theorem mh_cg {W : Vw} {n : Nat} {p q : Nat → Bool} (h : ∀ i, i < n → p i = q i) : mh W n p = mh W n q := by
  induction n with
  | zero => rfl
  | succ n ih => rw [mh_s, mh_s, h n (Nat.lt_succ_self n), ih (fun i hi => h i (Nat.lt_succ_of_lt hi))]
theorem mh_le {W : Vw} (hv : Iv W) (p : Nat → Bool) : ∀ n, n ≤ W 0 3 → mh W n p ≤ 24 := by
  intro n
  induction n with
  | zero => intro _; exact Nat.zero_le _
  | succ n ih =>
    intro h
    have := (hv.m (m := n) (by omega)).2.2.2.2.1
    rw [mh_s]
    split
    · exact this
    · exact ih (by omega)
theorem sX_mostHours25 {W : Vw} {ids : List Nat} {σ : St} (hv : Iv W) (hM : MX W ids σ) (q : Nat → Bool) {post : Int32 → St → Prop} (h : post (nI (mh W (W 0 3) q)) σ) : wX6_mostHours_25 ids post 0 (bs (W 0 3) q) σ := by
  have hc := hv.c
  refine lpc2 (wX6_mostHours_29 ids post (bs (W 0 3) q)) (W 0 3) (by omega) (fun i v τ => τ = σ ∧ v = nI (mh W i q)) ?_ ?_ 0 σ ⟨rfl, rfl⟩
  · rintro n v τ ⟨rfl, rfl⟩
    rw [wX6_mostHours_29_s]
    exact dt (by rw [hM.ms]; exact nI_le (Nat.le_refl _) (by omega)) h
  · rintro n i v τ hi ⟨rfl, rfl⟩ k
    rw [wX6_mostHours_29_s]
    obtain ⟨m1, -, m3, m4, m5, m6, m7, m8⟩ := hM.m hi
    have hm := hv.m hi
    have hl := mh_le hv q i (by omega)
    have go : ∀ v', v' = nI (mh W (i + 1) q) → wX6_mostHours_63 ids (wX6_mostHours_29 ids post (bs (W 0 3) q) n) post v' (bs (W 0 3) q) (nI i) τ := by
      rintro _ rfl v1 rfl
      rw [nI_1]
      exact k _ _ ⟨rfl, rfl⟩
    refine df (by rw [hM.ms]; exact nI_ge hi (by omega)) ?_
    rw [bt_t _ (i := i) (by omega), bt_bs _ (by omega) _ _ (by omega)]
    simp only [hi, decide_true, Bool.true_and]
    by_cases b : q i = true
    · refine dn b ⟨vin (by omega) (by omega), 60 + i, by rw [nI_clamp (by omega)]; exact m1, hM.okM hv hi, ?_⟩
      rintro v7 rfl
      refine go _ ?_
      have qi : nI (mh W i q) < nI (W 7 i) ↔ mh W i q < W 7 i := nI_ltI (by omega) (by omega)
      rw [m7, mh_s]
      by_cases g : mh W i q < W 7 i
      · rw [if_pos (qi.mpr g), if_pos ⟨b, g⟩]
      · rw [if_neg (fun z => g (qi.mp z)), if_neg (fun z => g z.2)]
    · refine dm b (go _ ?_)
      rw [mh_s, if_neg (fun z => b z.1)]
/-- the most hours of the machines that hang on a belt -/
def ho (W : Vw) (k : Nat) : Nat := mh W (W 0 3) (fun m => decide (W 14 k = 1) && mF W (W 12 k) m)
theorem sX_mostHours {W : Vw} {ids : List Nat} {σ : St} (hv : Iv W) (hM : MX W ids σ) {k : Nat} (hk : k < W 0 4) {post : Int32 → St → Prop} (h : post (nI (ho W k)) σ) : wX6_mostHours ids (bO W k) σ post := by
  obtain ⟨-, -, b0, b1, b2, b3, b6, b7, b8⟩ := hM.b hk
  have hb := hv.b hk
  unfold wX6_mostHours
  rw [b8, b2, one_or hb.2.2.2.2.2.2.1]
  by_cases on : W 14 k = 1
  · refine df (by simp [on]) (sX_shaftsFrom hv hM hb.2.2.1 (sX_machinesOn hv hM _ (sX_mostHours25 hv hM _ ?_)))
    have e : mh W (W 0 3) (mOn W (bs 8 (RC W (W 12 k)))) = ho W k := by
      unfold ho
      exact mh_cg (fun m hm => by rw [mOn_F hv _ hm]; simp [on])
    rw [e]
    exact h
  · refine dt on ?_
    have e : mh W (W 0 3) (fun _ => false) = ho W k := by
      unfold ho
      exact mh_cg (fun m hm => by simp [on])
    have h2 := sX_mostHours25 hv hM (fun _ => false) (post := post) (by rw [e]; exact h)
    rw [bs_none] at h2
    exact h2
/-- what a belt wraps -/
def bw (a b : Nat) : Nat := if df2 b a < 40 then 50 - df2 b a else 10
def wr (W : Vw) (k : Nat) : Nat := if W 10 k = 1 then bw (W 15 k) (W 16 k) + 20 else if W 10 k = 2 then bw (W 15 k) (W 16 k) + 15 else if W 10 k = 4 then bw (W 15 k) (W 16 k) + 10 else if W 10 k = 5 then (bw (W 15 k) (W 16 k) + 20) / 2 else bw (W 15 k) (W 16 k)
theorem bw_r (a b : Nat) : 10 ≤ bw a b ∧ bw a b ≤ 50 := by unfold bw; split <;> omega
theorem wr_r (W : Vw) (k : Nat) : wr W k ≤ 70 := by
  have := bw_r (W 15 k) (W 16 k)
  unfold wr
  split
  · omega
  · split
    · omega
    · split
      · omega
      · split <;> omega
theorem bw_I : ∀ d : Fin 100, (if (10 : Int32) < (50 : Int32) - nI d.val then (50 : Int32) - nI d.val else (10 : Int32)) = nI (if d.val < 40 then 50 - d.val else 10) := by decide +kernel
theorem sX_wrap0 {W : Vw} {ids : List Nat} {σ : St} (hv : Iv W) (hM : MX W ids σ) {k : Nat} (hk : k < W 0 4) {post : Int32 → St → Prop} (h : post (nI (bw (W 15 k) (W 16 k))) σ) : wX0_wrap ids (bO W k) σ post := by
  obtain ⟨-, -, b0, b1, b2, b3, b6, b7, b8⟩ := hM.b hk
  have hb := hv.b hk
  unfold wX0_wrap
  have hd := df2_le (a := W 16 k) (b := W 15 k) (by omega) (by omega)
  rw [b6, b7, df2_is (by omega) (by omega), bw_I ⟨df2 (W 16 k) (W 15 k), hd⟩]
  exact h
theorem sB_wrap {W : Vw} {ids : List Nat} {σ : St} (hv : Iv W) (hM : MX W ids σ) {k : Nat} (hk : k < W 0 4) {post : Int32 → St → Prop} (h : post (nI (wr W k)) σ) : wB_wrap ids (bO W k) σ post := by
  have hr := bO_r hv hk
  have hw := bw_r (W 15 k) (W 16 k)
  have e20 : (20 : Int32) = nI 20 := rfl
  have e15 : (15 : Int32) = nI 15 := rfl
  have e5 : (5 : Int32) = nI 5 := rfl
  have e2 : (2 : Int32) = nI 2 := rfl
  refine ⟨fun c => ?_, fun c => ?_, fun c => ?_, fun c => ?_, fun c => ?_⟩
  · refine sX_wrap0 hv hM hk ?_
    have e : wr W k = bw (W 15 k) (W 16 k) := by unfold wr; rw [if_neg (by omega), if_neg (by omega), if_neg (by omega), if_neg (by omega)]
    rw [← e]
    exact h
  · refine sX_wrap0 hv hM hk ?_
    have e : wr W k = bw (W 15 k) (W 16 k) + 20 := by unfold wr; rw [if_pos (by omega)]
    rw [e20, nI_add, ← e]
    exact h
  · refine sX_wrap0 hv hM hk ?_
    have e : wr W k = bw (W 15 k) (W 16 k) + 15 := by unfold wr; rw [if_neg (by omega), if_pos (by omega)]
    rw [e15, nI_add, ← e]
    exact h
  · unfold wX4_wrap wX3_wrap
    refine sX_wrap0 hv hM hk ?_
    have e : wr W k = bw (W 15 k) (W 16 k) + 15 - 5 := by unfold wr; rw [if_neg (by omega), if_neg (by omega), if_pos (by omega)]; rfl
    show post (nI (bw (W 15 k) (W 16 k)) + 15 - 5) σ
    rw [e15, e5, nI_add, nI_sub (by omega), ← e]
    exact h
  · unfold wX10_wrap wX2_wrap
    refine sX_wrap0 hv hM hk ?_
    have e : wr W k = (bw (W 15 k) (W 16 k) + 20) / 2 := by unfold wr; rw [if_neg (by omega), if_neg (by omega), if_neg (by omega), if_pos (by omega)]
    show post ((nI (bw (W 15 k) (W 16 k)) + 20) / 2) σ
    rw [e20, e2, nI_add, nI_div (by omega) (by omega), ← e]
    exact h
/-- how long a belt is -/
def apt (W : Vw) (k : Nat) : Nat := df2 (W 1 (W 11 k)) (W 1 (W 12 k))
def lg0 (W : Vw) (k : Nat) : Nat := 2 * apt W k + 3 * (W 15 k + W 16 k) / 2
def lgt (W : Vw) (k : Nat) : Nat := if W 10 k = 1 ∨ W 10 k = 5 then lg0 W k + (W 15 k + W 16 k) else if W 10 k = 2 then lg0 W k + 10 else lg0 W k
theorem sX_apart {W : Vw} {ids : List Nat} {σ : St} (hv : Iv W) (hM : MX W ids σ) {k : Nat} (hk : k < W 0 4) {post : Int32 → St → Prop} (h : post (nI (apt W k)) σ) : wX6_apart ids (bO W k) σ post := by
  have hc := hv.c
  obtain ⟨-, -, b0, b1, b2, b3, b6, b7, b8⟩ := hM.b hk
  have hb := hv.b hk
  have s1 := hv.s hb.2.1
  have s2 := hv.s hb.2.2.1
  refine ⟨by rw [b1]; exact vin (by omega) (by omega), by rw [b2]; exact vin (by omega) (by omega), ?_⟩
  rw [b1, b2, nI_clamp (by omega), nI_clamp (by omega), (hM.s hb.2.1).1, (hM.s hb.2.2.1).1, df2_is (by omega) (by omega)]
  exact h
theorem sX_plain {W : Vw} {ids : List Nat} {σ : St} (hv : Iv W) (hM : MX W ids σ) {k : Nat} (hk : k < W 0 4) {post : Int32 → St → Prop} (h : post (nI (lg0 W k)) σ) : wX0_plainLength ids (bO W k) (nI (apt W k)) σ post := by
  obtain ⟨-, -, b0, b1, b2, b3, b6, b7, b8⟩ := hM.b hk
  have hb := hv.b hk
  have e2 : (2 : Int32) = nI 2 := rfl
  have e3 : (3 : Int32) = nI 3 := rfl
  unfold wX0_plainLength
  rw [b6, b7, e2, e3, nI_mul, nI_add, nI_mul, nI_div (by omega) (by omega), nI_add]
  exact h
theorem sB_length {W : Vw} {ids : List Nat} {σ : St} (hv : Iv W) (hM : MX W ids σ) {k : Nat} (hk : k < W 0 4) {post : Int32 → St → Prop} (h : post (nI (lgt W k)) σ) : wB_length ids (bO W k) (nI (apt W k)) σ post := by
  have hr := bO_r hv hk
  obtain ⟨-, -, b0, b1, b2, b3, b6, b7, b8⟩ := hM.b hk
  have e10 : (10 : Int32) = nI 10 := rfl
  refine ⟨fun c => ?_, fun c => ?_, fun c => ?_, fun c => ?_⟩
  · refine sX_plain hv hM hk ?_
    have e : lgt W k = lg0 W k := by unfold lgt; rw [if_neg (by omega), if_neg (by omega)]
    rw [← e]
    exact h
  · refine sX_plain hv hM hk ?_
    have e : lgt W k = lg0 W k + (W 15 k + W 16 k) := by unfold lgt; rw [if_pos (by omega)]
    show post (nI (lg0 W k) + gI σ (bO W k) 6 + gI σ (bO W k) 7) σ
    rw [b6, b7, nI_add, nI_add, Nat.add_assoc, ← e]
    exact h
  · refine sX_plain hv hM hk ?_
    have e : lgt W k = lg0 W k + 10 := by unfold lgt; rw [if_neg (by omega), if_pos (by omega)]
    show post (nI (lg0 W k) + 10) σ
    rw [e10, nI_add, ← e]
    exact h
  · refine sX_plain hv hM hk ?_
    have e : lgt W k = lg0 W k := by unfold lgt; rw [if_neg (by omega), if_neg (by omega)]
    rw [← e]
    exact h
/-- whether a belt slips -/
def slp (W : Vw) (k : Nat) : Bool := decide (¬ nI (pl W k) ≤ nI (W 13 k * wr W k / 50))
theorem sX_slips {W : Vw} {ids : List Nat} {σ : St} (hv : Iv W) (hS : SX W ids σ) {k : Nat} (hk : k < W 0 4) {post : Int32 → St → Prop} (h : post (bI (slp W k)) σ) : wX6_slips ids (bO W k) σ post := by
  obtain ⟨-, -, b0, b1, b2, b3, b6, b7, b8⟩ := hS.1.b hk
  have hb := hv.b hk
  have hw := wr_r W k
  refine sX_pull hv hS hk (sB_wrap hv hS.1 hk ?_)
  have e50 : (50 : Int32) = nI 50 := rfl
  have hm : W 13 k * wr W k ≤ 999 * 70 := Nat.mul_le_mul hb.2.2.2.2.2.1 hw
  rw [b3, e50, nI_mul, nI_div (by omega) (by omega)]
  by_cases g : nI (pl W k) ≤ nI (W 13 k * wr W k / 50)
  · refine dt g ⟨isB_0, ?_⟩
    have e : slp W k = false := by unfold slp; simp [g]
    rw [e] at h
    exact h
  · refine df g ⟨isB_1, ?_⟩
    have e : slp W k = true := by unfold slp; simp [g]
    rw [e] at h
    exact h
/-- what is pulled at a shaft -/
def pu (W : Vw) (s n : Nat) : Nat := match n with
  | 0 => 0
  | n + 1 => pu W s n + (if W 11 n = s ∨ W 12 n = s then pl W n else 0)
theorem pu_s (W : Vw) (s n : Nat) : pu W s (n + 1) = pu W s n + (if W 11 n = s ∨ W 12 n = s then pl W n else 0) := rfl
theorem sX_pulls {W : Vw} {ids : List Nat} {σ : St} (hv : Iv W) (hS : SX W ids σ) {s : Nat} (hs : s < W 0 0) {post : Int32 → St → Prop} (h : post (nI (pu W s (W 0 4))) σ) : wX6_pulls ids (nI s) σ post := by
  have hc := hv.c
  have hM := hS.1
  refine lpc2 (wX6_pulls_4 ids post (nI s)) (W 0 4) (by omega) (fun i v τ => τ = σ ∧ v = nI (pu W s i)) ?_ ?_ 0 σ ⟨rfl, rfl⟩
  · rintro n v τ ⟨rfl, rfl⟩
    rw [wX6_pulls_4_s]
    exact dt (by rw [hM.bs]; exact nI_le (Nat.le_refl _) (by omega)) h
  · rintro n i v τ hi ⟨rfl, rfl⟩ kk
    rw [wX6_pulls_4_s]
    have hb := hv.b hi
    obtain ⟨br, -, b0, b1, b2, b3, b6, b7, b8⟩ := hM.b hi
    have go : ∀ v', v' = nI (pu W s (i + 1)) → wX6_pulls_51 ids (wX6_pulls_4 ids post (nI s) n) post (nI s) v' (nI i) τ := by
      rintro _ rfl v1 rfl
      rw [nI_1]
      exact kk _ _ ⟨rfl, rfl⟩
    have gp : (W 11 i = s ∨ W 12 i = s) → wX6_pulls_38 ids (wX6_pulls_4 ids post (nI s) n) post (nI s) (nI (pu W s i)) (nI i) τ := by
      intro c
      refine ⟨vin (by omega) (by omega), bO W i, by rw [nI_clamp (by omega)]; exact br, hM.okB hv hi, sX_pull hv hS hi ?_⟩
      intro v7 e7
      refine go _ ?_
      rw [e7, nI_add, pu_s, if_pos c]
    refine df (by rw [hM.bs]; exact nI_ge hi (by omega)) ⟨vin (by omega) (by omega), bO W i, by rw [nI_clamp (by omega)]; exact br, hM.okB hv hi, ?_⟩
    rw [b1, nI_eq (by omega) (by omega)]
    by_cases c1 : W 11 i = s
    · exact dt c1 (gp (Or.inl c1))
    · refine df c1 ⟨bO W i, by rw [nI_clamp (by omega)]; exact br, hM.okB hv hi, ?_⟩
      rw [b2, nI_eq (by omega) (by omega)]
      by_cases c2 : W 12 i = s
      · exact dn c2 (gp (Or.inr c2))
      · refine dm c2 (go _ ?_)
        rw [pu_s, if_neg (by omega)]
        rfl
def bnt (W : Vw) (s : Nat) : Bool := decide (¬ nI (pu W s (W 0 4)) ≤ nI (W 2 s))
theorem sX_isBent {W : Vw} {ids : List Nat} {σ : St} (hv : Iv W) (hS : SX W ids σ) {s : Nat} (hs : s < W 0 0) {post : Int32 → St → Prop} (h : post (bI (bnt W s)) σ) : wX6_isBent ids (nI s) σ post := by
  have hc := hv.c
  refine sX_pulls hv hS hs ⟨vin (by omega) (by omega), ?_⟩
  rw [nI_clamp (by omega), (hS.1.s hs).2]
  by_cases g : nI (pu W s (W 0 4)) ≤ nI (W 2 s)
  · refine dt g ⟨isB_0, ?_⟩
    have e : bnt W s = false := by unfold bnt; simp [g]
    rw [e] at h
    exact h
  · refine df g ⟨isB_1, ?_⟩
    have e : bnt W s = true := by unfold bnt; simp [g]
    rw [e] at h
    exact h
theorem sX_firstSlipping {W : Vw} {ids : List Nat} {σ : St} (hv : Iv W) (hS : SX W ids σ) {post : Int32 → St → Prop} (h : post (fI (W 0 4) (slp W)) σ) : wX6_firstSlipping ids σ post := by
  have hc := hv.c
  have hM := hS.1
  refine lpc1 (wX6_firstSlipping_2 ids post) (W 0 4) (by omega) (fun i τ => τ = σ ∧ ∀ j, j < i → slp W j = false) ?_ ?_ σ ⟨rfl, fun j hj => absurd hj (Nat.not_lt_zero _)⟩
  · rintro n τ ⟨rfl, h0⟩
    rw [wX6_firstSlipping_2_s]
    refine dt (by rw [hM.bs]; exact nI_le (Nat.le_refl _) (by omega)) ?_
    rw [← fI_no h0]
    exact h
  · rintro n i τ hi ⟨rfl, h0⟩ kk
    rw [wX6_firstSlipping_2_s]
    obtain ⟨br, -⟩ := hM.b hi
    refine df (by rw [hM.bs]; exact nI_ge hi (by omega)) ⟨vin (by omega) (by omega), bO W i, by rw [nI_clamp (by omega)]; exact br, hM.okB hv hi, sX_slips hv hS hi (bI_d (fun b => ?_) (fun b => ?_))⟩
    · rintro v8 rfl
      rw [nI_1]
      exact kk _ ⟨rfl, all_s h0 b⟩
    · rw [← fI_at hi h0 b]
      exact h
theorem sX_firstBent {W : Vw} {ids : List Nat} {σ : St} (hv : Iv W) (hS : SX W ids σ) {post : Int32 → St → Prop} (h : post (fI (W 0 0) (bnt W)) σ) : wX6_firstBent ids σ post := by
  have hc := hv.c
  have hM := hS.1
  refine lpc1 (wX6_firstBent_2 ids post) (W 0 0) (by omega) (fun i τ => τ = σ ∧ ∀ j, j < i → bnt W j = false) ?_ ?_ σ ⟨rfl, fun j hj => absurd hj (Nat.not_lt_zero _)⟩
  · rintro n τ ⟨rfl, h0⟩
    rw [wX6_firstBent_2_s]
    refine dt (by rw [hM.sh]; exact nI_le (Nat.le_refl _) (by omega)) ?_
    rw [← fI_no h0]
    exact h
  · rintro n i τ hi ⟨rfl, h0⟩ kk
    rw [wX6_firstBent_2_s]
    refine df (by rw [hM.sh]; exact nI_ge hi (by omega)) (sX_isBent hv hS hi (bI_d (fun b => ?_) (fun b => ?_)))
    · rintro v8 rfl
      rw [nI_1]
      exact kk _ ⟨rfl, all_s h0 b⟩
    · rw [← fI_at hi h0 b]
      exact h
/-- how many belts are on -/
def bn (W : Vw) (k : Nat) : Bool := decide (W 14 k = 1)
theorem sX_beltsOn {W : Vw} {ids : List Nat} {σ : St} (hv : Iv W) (hM : MX W ids σ) {post : Int32 → St → Prop} (h : post (nI (ct (W 0 4) (bn W))) σ) : wX6_beltsOn ids σ post := by
  have hc := hv.c
  refine lpc2 (wX6_beltsOn_4 ids post) (W 0 4) (by omega) (fun i v τ => τ = σ ∧ v = nI (ct i (bn W))) ?_ ?_ 0 σ ⟨rfl, rfl⟩
  · rintro n v τ ⟨rfl, rfl⟩
    rw [wX6_beltsOn_4_s]
    exact dt (by rw [hM.bs]; exact nI_le (Nat.le_refl _) (by omega)) h
  · rintro n i v τ hi ⟨rfl, rfl⟩ kk
    rw [wX6_beltsOn_4_s]
    have hb := hv.b hi
    obtain ⟨br, -, b0, b1, b2, b3, b6, b7, b8⟩ := hM.b hi
    have go : ∀ v', v' = nI (ct (i + 1) (bn W)) → wX6_beltsOn_27 ids (wX6_beltsOn_4 ids post n) post v' (nI i) τ := by
      rintro _ rfl v1 rfl
      rw [nI_1]
      exact kk _ _ ⟨rfl, rfl⟩
    refine df (by rw [hM.bs]; exact nI_ge hi (by omega)) ⟨vin (by omega) (by omega), bO W i, by rw [nI_clamp (by omega)]; exact br, hM.okB hv hi, ?_⟩
    rw [b8, one_or hb.2.2.2.2.2.2.1]
    by_cases on : W 14 i = 1
    · refine df (by simp [on]) (fun v e => go _ ?_)
      rw [e, nI_1, ct_s, if_pos (by unfold bn; simp [on])]
    · refine dt on (go _ ?_)
      rw [ct_s, if_neg (by unfold bn; simp [on])]
      rfl
