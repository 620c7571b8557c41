/-! PURE: the class's mill -/
def cu (W : Vw) (s : Nat) : Nat := if (T W s).1 / (T W s).2.1 < 1000000 then (T W s).1 / (T W s).2.1 else 1000000
theorem cu_le (W : Vw) (s : Nat) : cu W s ≤ 1000000 := by unfold cu; split <;> omega
/-- the class's store after spin -/
def SX (W : Vw) (ids : List Nat) (σ : St) : Prop := MX W ids σ ∧ ∀ s, s < W 0 0 → gJ σ 6 s = lN (T W s).1 ∧ gJ σ 7 s = lN (T W s).2.1 ∧ gI σ 8 s = iI (T W s).2.2
def EqS (σ τ : St) : Prop := EqX σ τ ∧ (∀ c k, gJ τ c k = gJ σ c k) ∧ ∀ k, gI τ 8 k = gI σ 8 k
theorem EqS.rf (σ : St) : EqS σ σ := ⟨EqX.rf σ, fun _ _ => rfl, fun _ => rfl⟩
theorem EqS.tr {σ τ υ : St} (h : EqS σ τ) (g : EqS τ υ) : EqS σ υ := ⟨h.1.tr g.1, fun c k => (g.2.1 c k).trans (h.2.1 c k), fun k => (g.2.2 k).trans (h.2.2 k)⟩
theorem EqS.uI {σ τ : St} (h : EqS σ τ) {c k : Nat} {v : Int32} (hs : scX c k) (h8 : ¬ c = 8) : EqS σ (uI τ c k v) := by
  refine ⟨h.1.uI hs, h.2.1, fun j => ?_⟩
  rw [gI_uI, if_neg (by omega), h.2.2]
theorem SX.eq {W : Vw} {ids : List Nat} {σ τ : St} (hv : Iv W) (h : SX W ids σ) (e : EqS σ τ) : SX W ids τ := by
  refine ⟨h.1.eq hv e.1, fun s hs => ?_⟩
  rw [e.2.1, e.2.1, e.2.2]
  exact h.2 s hs
theorem c1_b : 999 * 101 ^ 7 < 2 ^ 63 := by decide
theorem c2_b : 99 ^ 7 < 2 ^ 63 := by decide
theorem T_b1 {W : Vw} (hv : Iv W) (s : Nat) : (T W s).1 < 2 ^ 63 := Nat.lt_of_le_of_lt (T_bd hv s).1 c1_b
theorem T_b2 {W : Vw} (hv : Iv W) (s : Nat) : (T W s).2.1 < 2 ^ 63 := Nat.lt_of_le_of_lt (T_bd hv s).2.2.1 c2_b
theorem T_p {W : Vw} (hv : Iv W) (s : Nat) : 0 < (T W s).2.1 := (T_bd hv s).2.1
/-- the machines that are on, on some shafts -/
def mOn (W : Vw) (S : Int32) (m : Nat) : Bool := decide (W 8 m = 1) && bt S (W 3 m)
theorem one_or {n : Nat} (h : n ≤ 1) : nI n = 0 ↔ ¬ n = 1 := by
  have : n = 0 ∨ n = 1 := by omega
  rcases this with rfl | rfl <;> decide
theorem sX_machinesOn {W : Vw} {ids : List Nat} {σ : St} (hv : Iv W) (hM : MX W ids σ) (S : Int32) {post : Int32 → St → Prop} (h : post (bs (W 0 3) (mOn W S)) σ) : wX6_machinesOn ids S σ post := by
  have hc := hv.c
  refine lpc2 (wX6_machinesOn_4 ids post S) (W 0 3) (by omega) (fun i v τ => τ = σ ∧ v = bs i (mOn W S)) ?_ ?_ 0 σ ⟨rfl, rfl⟩
  · rintro n v τ ⟨rfl, rfl⟩
    rw [wX6_machinesOn_4_s]
    exact dt (by rw [hM.ms]; exact nI_le (Nat.le_refl _) (by omega)) h
  · rintro n i v τ hi ⟨rfl, rfl⟩ k
    rw [wX6_machinesOn_4_s]
    obtain ⟨m1, -, m3, m4, m5, m6, m7, m8⟩ := hM.m hi
    have hm := hv.m hi
    have go : ∀ v', v' = bs (i + 1) (mOn W S) → wX6_machinesOn_47 ids (wX6_machinesOn_4 ids post S n) post S v' (nI i) τ := by
      rintro _ rfl v1 rfl
      rw [nI_1]
      exact k _ _ ⟨rfl, rfl⟩
    refine df (by rw [hM.ms]; exact nI_ge hi (by omega)) ⟨vin (by omega) (by omega), 60 + i, by rw [nI_clamp (by omega)]; exact m1, hM.okM hv hi, ?_⟩
    by_cases on : W 8 i = 1
    · refine df (by rw [m8, one_or hm.2.2.2.2.2]; simp [on]) ⟨60 + i, by rw [nI_clamp (by omega)]; exact m1, hM.okM hv hi, ?_⟩
      rw [m3, bt_t S (i := W 3 i) (by omega)]
      by_cases b : bt S (W 3 i) = true
      · refine dn b (fun v e => go _ ?_)
        rw [e]
        exact bs_t (by unfold mOn; simp [on, b])
      · exact dm b (go _ (bs_f (by unfold mOn; simp [b])))
    · exact dt (by rw [m8, one_or hm.2.2.2.2.2]; exact on) (go _ (bs_f (by unfold mOn; simp [on])))
theorem m1_bt (s : Nat) (h : s < 8) : bt (255 : Int32) s = true := by
  have : ∀ s : Fin 8, bt (255 : Int32) s.val = true := by decide
  exact this ⟨s, h⟩
theorem lN_mx1 {x : Nat} (h : x < 2 ^ 63) (p : 0 < x) : (if lN x < (1 : Int64) then (1 : Int64) else lN x) = lN x := by
  have e : (1 : Int64) = lN 1 := rfl
  rw [e, if_neg (fun z => absurd ((lN_ltI h (by decide)).mp z) (by omega))]
theorem sX_cutTurns {W : Vw} {ids : List Nat} {σ : St} (hv : Iv W) (hS : SX W ids σ) {s : Nat} (hs : s < W 0 0) {post : Int32 → St → Prop} (h : post (nI (cu W s)) σ) : wX6_cutTurns ids (nI s) σ post := by
  have hc := hv.c
  have b1 := T_b1 hv s
  have b2 := T_b2 hv s
  have b3 := T_p hv s
  obtain ⟨e1, e2, -⟩ := hS.2 s hs
  have bq : (T W s).1 / (T W s).2.1 < 2 ^ 63 := Nat.lt_of_le_of_lt (Nat.div_le_self _ _) b1
  refine ⟨vin (by omega) (by omega), ?_, ?_⟩
  · rw [nI_clamp (by omega), e2, lN_mx1 b2 b3]
    exact lN_n0 b2 b3
  · rw [nI_clamp (by omega), e1, e2, lN_mx1 b2 b3, lN_div b1 b2]
    have e3 : (1000000 : Int64) = lN 1000000 := rfl
    have e4 : (if lN ((T W s).1 / (T W s).2.1) < 1000000 then lN ((T W s).1 / (T W s).2.1) else 1000000) = lN (cu W s) := by
      rw [e3]
      unfold cu
      by_cases q : (T W s).1 / (T W s).2.1 < 1000000
      · rw [if_pos q, if_pos ((lN_ltI bq (by decide)).mpr q)]
      · rw [if_neg q, if_neg (fun z => q ((lN_ltI bq (by decide)).mp z))]
    rw [e4, lN_i]
    exact h
/-- what a machine loads when it is on -/
def ld (W : Vw) (m : Nat) : Nat := W 4 m * cu W (W 3 m) / 100
/-- what some machines load -/
def sm (W : Vw) (n : Nat) (p : Nat → Bool) : Nat := match n with
  | 0 => 0
  | n + 1 => sm W n p + (if p n then ld W n else 0)
theorem ld_l {W : Vw} (hv : Iv W) {m : Nat} (hm : m < W 0 3) : ((lN (W 4 m) * lN (cu W (W 3 m))) / 100).toInt32 = nI (ld W m) := by
  have h1 := (hv.m hm).2.1
  have h2 := cu_le W (W 3 m)
  have h3 : W 4 m * cu W (W 3 m) ≤ 10998 * 1000000 := Nat.mul_le_mul h1 h2
  have e : (100 : Int64) = lN 100 := rfl
  rw [lN_mul, e, lN_div (by omega) (by decide), lN_i]
  rfl
theorem sX_loadedOn {W : Vw} {ids : List Nat} {σ : St} (hv : Iv W) (hS : SX W ids σ) (S : Int32) {post : Int32 → St → Prop} (h : post (nI (sm W (W 0 3) (mOn W S))) σ) : wX6_loadedOn ids S σ post := by
  have hc := hv.c
  have hM := hS.1
  refine sX_machinesOn hv hM S ?_
  refine lpc2 (wX6_loadedOn_11 ids post _) (W 0 3) (by omega) (fun i v τ => τ = σ ∧ v = nI (sm W i (mOn W S))) ?_ ?_ 0 σ ⟨rfl, rfl⟩
  · rintro n v τ ⟨rfl, rfl⟩
    rw [wX6_loadedOn_11_s]
    exact dt (by rw [hM.ms]; exact nI_le (Nat.le_refl _) (by omega)) h
  · rintro n i v τ hi ⟨rfl, rfl⟩ k
    rw [wX6_loadedOn_11_s]
    obtain ⟨m1, -, m3, m4, m5, m6, m7, m8⟩ := hM.m hi
    have hm := hv.m hi
    have go : ∀ v', v' = nI (sm W (i + 1) (mOn W S)) → wX6_loadedOn_65 ids (wX6_loadedOn_11 ids post (bs (W 0 3) (mOn W S)) n) post v' (bs (W 0 3) (mOn W S)) (nI i) τ := by
      rintro _ rfl v1 rfl
      rw [nI_1]
      exact k _ _ ⟨rfl, rfl⟩
    refine df (by rw [hM.ms]; exact nI_ge hi (by omega)) ?_
    rw [bt_t _ (i := i) (by omega), bt_bs _ (by omega) _ _ (by omega)]
    simp only [hi, decide_true, Bool.true_and]
    by_cases b : mOn W S i = true
    · refine dn b ⟨vin (by omega) (by omega), 60 + i, by rw [nI_clamp (by omega)]; exact m1, hM.okM hv hi, 60 + i, by rw [nI_clamp (by omega)]; exact m1, hM.okM hv hi, ?_⟩
      rw [m3]
      refine sX_cutTurns hv hS hm.1 ?_
      intro v e
      refine go _ ?_
      have q := cu_le W (W 3 i)
      rw [e, m6, nI_l (by omega), nI_l (by omega), ld_l hv hi, nI_add]
      congr 1
      show _ = sm W i (mOn W S) + (if mOn W S i then ld W i else 0)
      rw [if_pos b]
    · refine dm b (go _ ?_)
      congr 1
      show _ = sm W i (mOn W S) + (if mOn W S i then ld W i else 0)
      rw [if_neg b]
      rfl
/-- the load of all -/
def mA (W : Vw) (m : Nat) : Bool := decide (W 8 m = 1)
theorem sm_cg {W : Vw} {n : Nat} {p q : Nat → Bool} (h : ∀ i, i < n → p i = q i) : sm W n p = sm W n q := by
  induction n with
  | zero => rfl
  | succ n ih =>
    unfold sm
    rw [h n (Nat.lt_succ_self n), ih (fun i hi => h i (Nat.lt_succ_of_lt hi))]
theorem mOn_all {W : Vw} (hv : Iv W) {m : Nat} (hm : m < W 0 3) : mOn W 255 m = mA W m := by
  have h1 := (hv.m hm).1
  have h2 := hv.c
  unfold mOn mA
  rw [m1_bt _ (by omega)]
  simp
theorem sX_loadedInAll {W : Vw} {ids : List Nat} {σ : St} (hv : Iv W) (hS : SX W ids σ) {post : Int32 → St → Prop} (h : post (nI (sm W (W 0 3) (mA W))) σ) : wX6_loadedInAll ids σ post := by
  refine sX_loadedOn hv hS 255 ?_
  rw [sm_cg (q := mA W) (fun i hi => mOn_all hv hi)]
  exact h
theorem sX_switchedOn {W : Vw} {ids : List Nat} {σ : St} (hv : Iv W) (hM : MX W ids σ) {post : Int32 → St → Prop} (h : post (bs (W 0 3) (mA W)) σ) : wX6_switchedOn ids σ post := by
  refine sX_machinesOn hv hM 255 ?_
  rw [bs_cg (q := mA W) (fun i hi => mOn_all hv hi)]
  exact h
/-- machines whose shaft turns -/
def mT (W : Vw) (m : Nat) : Bool := decide (0 < (T W (W 3 m)).1)
theorem sX_turning {W : Vw} {ids : List Nat} {σ : St} (hv : Iv W) (hS : SX W ids σ) {post : Int32 → St → Prop} (h : post (bs (W 0 3) (mT W)) σ) : wX6_turning ids σ post := by
  have hc := hv.c
  have hM := hS.1
  refine lpc2 (wX6_turning_4 ids post) (W 0 3) (by omega) (fun i v τ => τ = σ ∧ v = bs i (mT W)) ?_ ?_ 0 σ ⟨rfl, rfl⟩
  · rintro n v τ ⟨rfl, rfl⟩
    rw [wX6_turning_4_s]
    exact dt (by rw [hM.ms]; exact nI_le (Nat.le_refl _) (by omega)) h
  · rintro n i v τ hi ⟨rfl, rfl⟩ k
    rw [wX6_turning_4_s]
    obtain ⟨m1, -, m3, m4, m5, m6, m7, m8⟩ := hM.m hi
    have hm := hv.m hi
    have go : ∀ v', v' = bs (i + 1) (mT W) → wX6_turning_37 ids (wX6_turning_4 ids post n) post v' (nI i) τ := by
      rintro _ rfl v1 rfl
      rw [nI_1]
      exact k _ _ ⟨rfl, rfl⟩
    refine df (by rw [hM.ms]; exact nI_ge hi (by omega)) ⟨vin (by omega) (by omega), 60 + i, by rw [nI_clamp (by omega)]; exact m1, hM.okM hv hi, by rw [m3]; exact vin (by omega) (by omega), ?_⟩
    rw [m3, nI_clamp (by omega), (hS.2 _ hm.1).1, lg_cmp_le, lN_0, lN_leI (T_b1 hv _) (by decide)]
    by_cases b : (T W (W 3 i)).1 ≤ 0
    · exact dt b (go _ (bs_f (by unfold mT; simp; omega)))
    · refine df b (fun v e => go _ ?_)
      rw [e]
      exact bs_t (by unfold mT; simp; omega)
/-- machines that run well -/
def mW (W : Vw) (m : Nat) : Bool := decide (¬ W 8 m = 1 ∨ (W 5 m * (T W (W 3 m)).2.1 ≤ (T W (W 3 m)).1 ∧ (T W (W 3 m)).1 ≤ W 6 m * (T W (W 3 m)).2.1))
theorem sX_wellRunning {W : Vw} {ids : List Nat} {σ : St} (hv : Iv W) (hS : SX W ids σ) {post : Int32 → St → Prop} (h : post (bs (W 0 3) (mW W)) σ) : wX6_wellRunning ids σ post := by
  have hc := hv.c
  have hM := hS.1
  refine lpc2 (wX6_wellRunning_4 ids post) (W 0 3) (by omega) (fun i v τ => τ = σ ∧ v = bs i (mW W)) ?_ ?_ 0 σ ⟨rfl, rfl⟩
  · rintro n v τ ⟨rfl, rfl⟩
    rw [wX6_wellRunning_4_s]
    exact dt (by rw [hM.ms]; exact nI_le (Nat.le_refl _) (by omega)) h
  · rintro n i v τ hi ⟨rfl, rfl⟩ k
    rw [wX6_wellRunning_4_s]
    obtain ⟨m1, -, m3, m4, m5, m6, m7, m8⟩ := hM.m hi
    have hm := hv.m hi
    have go : ∀ v', v' = bs (i + 1) (mW W) → wX6_wellRunning_57 ids (wX6_wellRunning_4 ids post n) post v' (nI i) τ := by
      rintro _ rfl v1 rfl
      rw [nI_1]
      exact k _ _ ⟨rfl, rfl⟩
    have yes : mW W i = true → wX6_wellRunning_51 ids (wX6_wellRunning_4 ids post n) post (bs i (mW W)) (nI i) τ := by
      intro b v e
      refine go _ ?_
      rw [e]
      exact bs_t b
    refine df (by rw [hM.ms]; exact nI_ge hi (by omega)) ⟨vin (by omega) (by omega), 60 + i, by rw [nI_clamp (by omega)]; exact m1, hM.okM hv hi, ?_⟩
    rw [m8, one_or hm.2.2.2.2.2]
    by_cases on : W 8 i = 1
    · refine df (by simp [on]) ⟨by rw [m3]; exact vin (by omega) (by omega), ?_⟩
      have b1 := T_b1 hv (W 3 i)
      have b2 := (T_bd hv (W 3 i)).2.2.1
      obtain ⟨e1, e2, -⟩ := hS.2 _ hm.1
      have l1 : W 5 i * (T W (W 3 i)).2.1 < 2 ^ 63 := Nat.lt_of_le_of_lt (Nat.mul_le_mul hm.2.2.1 b2) (by decide)
      have l2 : W 6 i * (T W (W 3 i)).2.1 < 2 ^ 63 := Nat.lt_of_le_of_lt (Nat.mul_le_mul hm.2.2.2.1 b2) (by decide)
      unfold wX5_wants
      rw [m3, nI_clamp (by omega), e1, e2, m4, m5, nI_l (by omega), nI_l (by omega), lN_mul, lN_mul, lg_cmp_gt, lg_cmp_gt, lN_ltI b1 l1, lN_ltI l2 b1]
      have no : ¬ mW W i = true → wX5_wants_28 ids (fun r11 σ10 => ((r11 = 0 → wX6_wellRunning_57 ids (wX6_wellRunning_4 ids post n) post (bs i (mW W)) (nI i) σ10) ∧ (¬ r11 = 0 → wX6_wellRunning_51 ids (wX6_wellRunning_4 ids post n) post (bs i (mW W)) (nI i) σ10))) τ := by
        intro b
        exact ⟨isB_0, dt rfl (go _ (bs_f b))⟩
      by_cases g1 : (T W (W 3 i)).1 < W 5 i * (T W (W 3 i)).2.1
      · exact dt g1 (no (by unfold mW; simp [on]; omega))
      · refine df g1 ?_
        by_cases g2 : W 6 i * (T W (W 3 i)).2.1 < (T W (W 3 i)).1
        · exact dt g2 (no (by unfold mW; simp [on]; omega))
        · exact df g2 ⟨isB_1, df (by decide) (yes (by unfold mW; simp [on]; omega))⟩
    · exact dt on (yes (by unfold mW; simp [on]))
