/-! PURE: save, judge, taken -/
/-- for i from a below e, with one int carried -/
theorem lpa2 (W : Nat → Int32 → Int32 → St → Prop) (a e : Nat) (I : Nat → Int32 → St → Prop) (hx : ∀ (n i : Nat) (v : Int32) (σ : St), e ≤ i → (i = e ∨ i = a) → I i v σ → W (n + 1) v (nI i) σ) (hs : ∀ (n i : Nat) (v : Int32) (σ : St), i < e → a ≤ i → I i v σ → (∀ (v' : Int32) (τ : St), I (i + 1) v' τ → W n v' (nI (i + 1)) τ) → W (n + 1) v (nI i) σ) (v : Int32) (σ : St) (h : I a v σ) : ∃ n, W n v (nI a) σ := by
  have key : ∀ (k i : Nat) (v : Int32) (σ : St), a ≤ i → (i ≤ e ∨ i = a) → e - i < k → I i v σ → W k v (nI i) σ := by
    intro k
    induction k with
    | zero => intro i v σ _ _ h; omega
    | succ k ih =>
      intro i v σ ha hi hk hI
      rcases Nat.lt_or_ge i e with h1 | h1
      · exact hs k i v σ h1 ha hI (fun v' τ hτ => ih (i + 1) v' τ (by omega) (by omega) (by omega) hτ)
      · exact hx k i v σ h1 (by omega) hI
  exact ⟨e - a + 1, key _ a v σ (Nat.le_refl a) (Or.inr rfl) (by omega) h⟩
/-- none of a row -/
def nn (n : Nat) (q : Nat → Bool) : Bool := match n with
  | 0 => true
  | n + 1 => nn n q && !q n
theorem nn_s (n : Nat) (q : Nat → Bool) : nn (n + 1) q = (nn n q && !q n) := rfl
theorem nn_t {n : Nat} {q : Nat → Bool} : nn n q = true ↔ ∀ i, i < n → q i = false := by
  induction n with
  | zero => exact ⟨fun _ i hi => absurd hi (Nat.not_lt_zero _), fun _ => rfl⟩
  | succ n ih =>
    rw [nn_s, Bool.and_eq_true, ih]
    constructor
    · rintro ⟨h1, h2⟩ i hi
      rcases Nat.lt_or_ge i n with g | g
      · exact h1 i g
      · have : i = n := by omega
        subst this
        simpa using h2
    · intro h
      exact ⟨fun i hi => h i (by omega), by rw [h n (by omega)]; rfl⟩
theorem bs_z {n : Nat} (hn : n ≤ 32) (q : Nat → Bool) : bs n q = 0 ↔ nn n q = true := by
  rw [nn_t]
  constructor
  · intro h i hi
    have e := bt_bs n hn q i (by omega)
    rw [h, bt_0] at e
    simp [hi] at e
    exact e
  · intro h
    rw [← bs_none n]
    exact bs_cg h
/-- a shaft that turns for nothing -/
def sv (W : Vw) (s : Nat) : Bool := decide (1 ≤ s) && (decide (0 < (T W s).1) && nn (W 0 3) (mF W s))
theorem sv_0 (W : Vw) : bs 1 (sv W) = 0 := by
  rw [← bs_none 1]
  exact bs_cg (fun i hi => by
    have : i = 0 := by omega
    subst this
    rfl)
theorem sv_e {W : Vw} {i : Nat} (h1 : W 0 0 ≤ i) (h2 : i = W 0 0 ∨ i = 1) : bs i (sv W) = bs (W 0 0) (sv W) := by
  rcases h2 with e | e
  · rw [e]
  · have : W 0 0 = 0 ∨ W 0 0 = 1 := by omega
    rcases this with g | g
    · rw [e, g, sv_0]; rfl
    · rw [e, g]
theorem sX_save {W : Vw} {ids : List Nat} {σ : St} (hv : Iv W) (hM : MX W ids σ) {post : Int32 → St → Prop} (h : ∀ τ, EqX σ τ → post (bs (W 0 0) (sv W)) τ) : wX11_save ids σ post := by
  have hc := hv.c
  refine sX_spin hv hM (fun τ he hS => ?_)
  have hM1 := hS.1
  refine lpa2 (wX11_save_11 ids post) 1 (W 0 0) (fun i v υ => υ = τ ∧ v = bs i (sv W)) ?_ ?_ 0 τ ⟨rfl, (sv_0 W).symm⟩
  · rintro n i v υ hi h2 ⟨rfl, rfl⟩
    rw [wX11_save_11_s]
    refine dt (by rw [hM1.sh]; exact nI_le hi (by omega)) ?_
    rw [sv_e hi h2]
    exact h υ he
  · rintro n i v υ hi h1 ⟨rfl, rfl⟩ kk
    rw [wX11_save_11_s]
    have go : ∀ v', v' = bs (i + 1) (sv W) → wX11_save_60 ids (wX11_save_11 ids post n) post v' (nI i) υ := by
      rintro _ rfl v1 rfl
      rw [nI_1]
      exact kk _ _ ⟨rfl, rfl⟩
    refine df (by rw [hM1.sh]; exact nI_ge hi (by omega)) ⟨vin (by omega) (by omega), ?_⟩
    rw [nI_clamp (by omega), (hS.2 i hi).1, lg_cmp_le, lN_0, lN_leI (T_b1 hv i) (by decide)]
    by_cases z : (T W i).1 ≤ 0
    · refine dt z (go _ (bs_f ?_))
      unfold sv
      have : ¬ 0 < (T W i).1 := by omega
      simp [this]
    · refine df z (sX_shaftsFrom hv hM1 hi (sX_machinesOn hv hM1 _ ?_))
      rw [bs_cg (fun m hm => mOn_F hv i hm), bs_z (by omega)]
      have zp : 0 < (T W i).1 := by omega
      by_cases b : nn (W 0 3) (mF W i) = true
      · refine dn b (fun v e => go _ ?_)
        rw [e]
        exact bs_t (by unfold sv; simp [h1, zp, b])
      · exact dm b (go _ (bs_f (by unfold sv; simp [b])))
theorem sR_save {W : Vw} {ρ : St} (hv : Iv W) (hR : MR W ρ) {post : Int32 → St → Prop} (h : ∀ τ, EqR ρ τ → post (bs (W 0 0) (sv W)) τ) : wX12_save ρ post := by
  have hc := hv.c
  refine sR_lays hv hR (fun τ he hS => ?_)
  have hM1 := hS.1
  refine lpa2 (wX12_save_8 post) 1 (W 0 0) (fun i v υ => υ = τ ∧ v = bs i (sv W)) ?_ ?_ 0 τ ⟨rfl, (sv_0 W).symm⟩
  · rintro n i v υ hi h2 ⟨rfl, rfl⟩
    rw [wX12_save_8_s]
    refine dt (by rw [hM1.sh]; exact nI_le hi (by omega)) ?_
    rw [sv_e hi h2]
    exact h υ he
  · rintro n i v υ hi h1 ⟨rfl, rfl⟩ kk
    rw [wX12_save_8_s]
    have o0 : bs i (sv W) ||| 0 = bs i (sv W) := bt_ext (fun t _ => by rw [bt_or, bt_0, Bool.or_false])
    refine df (by rw [hM1.sh]; exact nI_ge hi (by omega)) (sR_from hv hM1 hi ⟨vin (by omega) (by omega), ?_⟩)
    rw [nI_clamp (by omega), sR_ways hv hS (by omega)]
    have go : ∀ z : Bool, z = decide (0 < (T W i).1) → wX12_save_36 (wX12_save_8 post n) post (bs i (sv W)) (nI i) (bs 8 (RC W i)) (bI z) υ := by
      intro z ez
      refine lpc2 (wX12_save_41 (wX12_save_8 post n) post (bs i (sv W)) (nI i) (bs 8 (RC W i))) (W 0 3) (by omega) (fun j v τ1 => τ1 = υ ∧ v = bI (z && nn j (mF W i))) ?_ ?_ _ υ ⟨rfl, by simp [nn]⟩
      · rintro n1 v τ1 ⟨rfl, rfl⟩
        rw [wX12_save_41_s]
        refine dt (by rw [hM1.ms]; exact nI_le (Nat.le_refl _) (by omega)) (bI_d (fun b => ?_) (fun b => ?_))
        · rintro v1 rfl v2 rfl
          rw [nI_1, o0, bs_f (by unfold sv; rw [← ez, b]; simp)]
          exact kk _ _ ⟨rfl, rfl⟩
        · rintro v1 rfl v2 rfl
          rw [nI_1, bs_t (by unfold sv; rw [← ez, b]; simp [h1])]
          exact kk _ _ ⟨rfl, rfl⟩
      · rintro n1 j v τ1 hj ⟨rfl, rfl⟩ kk2
        rw [wX12_save_41_s]
        obtain ⟨m1, m2, m3, m4, m5, m6⟩ := hM1.m hj
        have hm := hv.m hj
        have fin : ∀ x, x = bI (z && nn (j + 1) (mF W i)) → wX12_save_84 (wX12_save_8 post n) (wX12_save_41 (wX12_save_8 post n) post (bs i (sv W)) (nI i) (bs 8 (RC W i)) n1) post (bs i (sv W)) (nI i) (bs 8 (RC W i)) (nI j) x τ1 := by
          rintro x rfl v3 rfl
          rw [nI_1]
          exact kk2 _ _ ⟨rfl, rfl⟩
        refine df (by rw [hM1.ms]; exact nI_ge hj (by omega)) (bI_d (fun b => ?_) (fun b => ?_))
        · refine fin 0 ?_
          rw [nn_s, ← Bool.and_assoc, b]
          rfl
        · refine ⟨vin (by omega) (by omega), ?_⟩
          rw [nI_clamp (by omega), m6, m1, one_or hm.2.2.2.2.2, bt_t0 _ (i := W 3 j) (by omega), bt_bs 8 (by omega) _ _ (by omega)]
          have g8 : W 3 j < 8 := by omega
          simp only [g8, decide_true, Bool.true_and]
          have ef : mF W i j = (decide (W 8 j = 1) && RC W i (W 3 j)) := rfl
          by_cases on : W 8 j = 1
          · refine df (by simp [on]) ?_
            by_cases r : RC W i (W 3 j) = false
            · exact dn r (fin 1 (by rw [nn_s, ← Bool.and_assoc, b, ef, r]; simp [bI]))
            · exact dm r (fin 0 (by rw [nn_s, ← Bool.and_assoc, b, ef]; simp [on, r, bI]))
          · exact dt on (fin 1 (by rw [nn_s, ← Bool.and_assoc, b, ef]; simp [on, bI]))
    by_cases z : (T W i).1 = 0
    · exact dt z (go false (by simp [z]))
    · exact df z (go true (by simp; omega))
theorem pc_save {ids : List Nat} {σ ρ : St} (h : Rel ids σ ρ) : wX11_save ids σ (fun r σ1 => wX12_save ρ (fun r2 ρ1 => r = r2 ∧ Rel ids σ1 ρ1)) := by
  obtain ⟨-, W, h⟩ := h
  exact sX_save h.iv h.mx (fun τ he => sR_save h.iv h.mr (fun υ e2 => ⟨rfl, (h.eq he e2).rel⟩))
-- judge
theorem sX_lowestBit {ids : List Nat} {σ : St} (x : Int32) {post : Int32 → St → Prop} (h : post (fI 32 (bt x)) σ) : wX11_lowestBit ids x σ post := by
  have e32 : (32 : Int32) = nI 32 := rfl
  refine lpc1 (wX11_lowestBit_2 ids post x) 32 (by omega) (fun i τ => τ = σ ∧ ∀ j, j < i → bt x j = false) ?_ ?_ σ ⟨rfl, fun j hj => absurd hj (Nat.not_lt_zero _)⟩
  · rintro n τ ⟨rfl, h0⟩
    rw [wX11_lowestBit_2_s, e32]
    refine dt (nI_le (Nat.le_refl _) (by omega)) ?_
    rw [← fI_no h0]
    exact h
  · rintro n i τ hi ⟨rfl, h0⟩ kk
    rw [wX11_lowestBit_2_s, e32]
    refine df (nI_ge hi (by omega)) ?_
    rw [bt_t x hi]
    by_cases b : bt x i = true
    · refine dn b ?_
      rw [← fI_at hi h0 b]
      exact h
    · refine dm b ?_
      rintro v3 rfl
      rw [nI_1]
      exact kk _ ⟨rfl, all_s h0 (nf b)⟩
theorem fd_ext {n m : Nat} {p q : Nat → Bool} (hnm : n ≤ m) (h : ∀ i, i < n → q i = p i) (h2 : n < m → fd n p = n → q n = true) : fd m q = if fd n p < n then fd n p else (if n < m then n else m) := by
  have hl := fd_le n p
  have h0 := fd_no n p
  have h1 := fd_yes n p
  split
  · rename_i g
    refine fd_is (by omega) (fun j hj => ?_) (fun _ => ?_)
    · rw [h j (by omega)]; exact h0 j hj
    · rw [h _ g]; exact h1 g
  · rename_i g
    have e : fd n p = n := by omega
    split
    · rename_i g2
      refine fd_is hnm (fun j hj => ?_) (fun _ => h2 g2 e)
      rw [h j hj]
      exact h0 j (by omega)
    · have : n = m := by omega
      subst this
      refine fd_is (Nat.le_refl _) (fun j hj => ?_) (fun c => absurd c (Nat.lt_irrefl _))
      rw [h j hj]
      exact h0 j (by omega)
theorem fI_cut {n m : Nat} {p : Nat → Bool} (hnm : n ≤ m) (h : ∀ i, n ≤ i → i < m → p i = false) : fI m p = fI n p := by
  by_cases g : fd n p < n
  · have e : fd m p = fd n p := fd_is (by omega) (fd_no n p) (fun _ => fd_yes n p g)
    unfold fI
    rw [e, if_pos g, if_pos (by omega)]
  · have h0 := fd_no n p
    have hl := fd_le n p
    rw [fI_no (n := n) (fun j hj => h0 j (by omega)), fI_no]
    intro j hj
    rcases Nat.lt_or_ge j n with c | c
    · exact h0 j (by omega)
    · exact h j c hj
/-- a drum at an end of a belt -/
def eD2 (W : Vw) (d k : Nat) : Bool := decide (d = W 18 k) || decide (d = W 19 k)
/-- a drum on two belts -/
def tw (W : Vw) (d : Nat) : Bool := decide (1 < ct (W 0 4) (eD2 W d))
theorem sX_firstShared {W : Vw} {ids : List Nat} {σ : St} (hv : Iv W) (hd : Dv W) (hM : MX W ids σ) (hD : DX W σ) {post : Int32 → St → Prop} (h : post (fI (W 0 5) (tw W)) σ) : wX6_firstSharedDrum ids σ post := by
  have hc := hv.c
  have hdc := hd.1
  refine lpc3 (wX6_firstSharedDrum_6 ids post) (W 0 4) (by omega) (fun i v w τ => τ = σ ∧ (∀ d, d < 32 → bt v d = decide (0 < ct i (eD2 W d))) ∧ ∀ d, d < 32 → bt w d = decide (1 < ct i (eD2 W d))) ?_ ?_ 0 0 σ ⟨rfl, fun d _ => by rw [bt_0]; rfl, fun d _ => by rw [bt_0]; rfl⟩
  · rintro n v w τ ⟨rfl, h1, h2⟩
    rw [wX6_firstSharedDrum_6_s]
    refine dt (by rw [hM.bs]; exact nI_le (Nat.le_refl _) (by omega)) (sX_lowestBit w ?_)
    have e : fI 32 (bt w) = fI (W 0 5) (tw W) := by
      have e1 : fd 32 (bt w) = fd 32 (tw W) := fd_cg (fun d hd => h2 d hd)
      have e2 : fI 32 (bt w) = fI 32 (tw W) := by unfold fI; rw [e1]
      rw [e2]
      refine fI_cut (by omega) (fun d g1 g2 => ?_)
      have z : ct (W 0 4) (eD2 W d) = ct (W 0 4) (fun _ => false) := ct_cg (fun k hk => by
        have := hd.2.2.2.1 k hk
        unfold eD2
        have : ¬ d = W 18 k := by omega
        have : ¬ d = W 19 k := by omega
        simp [*])
      have z2 : ∀ n, ct n (fun _ => false) = 0 := by
        intro n
        induction n with
        | zero => rfl
        | succ n ih => rw [ct_s, ih]; rfl
      unfold tw
      rw [z, z2]
      rfl
    rw [e]
    exact h
  · rintro n i v w τ hi ⟨rfl, h1, h2⟩ kk
    rw [wX6_firstSharedDrum_6_s]
    have hk := hd.2.2.2.1 i hi
    obtain ⟨d1, d2⟩ := hD.2.2.1 i hi
    refine df (by rw [hM.bs]; exact nI_ge hi (by omega)) ⟨vin (by omega) (by omega), bO W i, by rw [nI_clamp (by omega)]; exact (hM.b hi).1, hM.okB hv hi, bO W i, by rw [nI_clamp (by omega)]; exact (hM.b hi).1, hM.okB hv hi, ?_⟩
    rw [d1, d2]
    rintro v10 rfl v11 rfl v12 rfl v13 rfl
    rw [nI_1]
    have be : ∀ d, d < 32 → bt (((1 : Int32) <<< (nI (W 18 i) &&& 31)) ||| ((1 : Int32) <<< (nI (W 19 i) &&& 31))) d = eD2 W d i := fun d hd => by
      rw [bt_or, bt_one _ (by omega) d hd, bt_one _ (by omega) d hd]
      rfl
    refine kk _ _ _ ⟨rfl, fun d hd => ?_, fun d hd => ?_⟩
    · rw [bt_or, be d hd, h1 d hd, ct_s]
      cases eD2 W d i
      · simp
      · simp
    · rw [bt_or, bt_and, be d hd, h1 d hd, h2 d hd, ct_s]
      cases eD2 W d i
      · simp
      · rcases Nat.lt_trichotomy (ct i (eD2 W d)) 1 with g | g | g
        · have : ct i (eD2 W d) = 0 := by omega
          simp [this]
        · simp [g]
        · have g0 : 0 < ct i (eD2 W d) := by omega
          have g2 : 1 < ct i (eD2 W d) + 1 := by omega
          simp [g0, g2]
theorem sR_isTwice {W : Vw} {ρ : St} (hv : Iv W) (hdc : W 0 5 ≤ 12) (hdk : ∀ k, k < W 0 4 → W 18 k < W 0 5 ∧ W 19 k < W 0 5) (hR : MR W ρ) (hD : ∀ k, k < W 0 4 → gI ρ 16 k = nI (W 18 k) ∧ gI ρ 17 k = nI (W 19 k)) {d : Nat} (hd12 : d < 12) {post : Int32 → St → Prop} (h : post (bI (tw W d)) ρ) : wX12_isTwice (nI d) ρ post := by
  have hc := hv.c
  refine lpc2 (wX12_isTwice_4 post (nI d)) (W 0 4) (by omega) (fun i v τ => τ = ρ ∧ v = nI (ct i (eD2 W d))) ?_ ?_ 0 ρ ⟨rfl, rfl⟩
  · rintro n v τ ⟨rfl, rfl⟩
    rw [wX12_isTwice_4_s]
    refine dt (by rw [hR.bs]; exact nI_le (Nat.le_refl _) (by omega)) ?_
    have hl := ct_le (W 0 4) (eD2 W d)
    have e1 : (nI (ct (W 0 4) (eD2 W d)) ≤ (1 : Int32)) ↔ ct (W 0 4) (eD2 W d) ≤ 1 := nI_leI (b := 1) (by omega) (by omega)
    rw [e1]
    by_cases g : ct (W 0 4) (eD2 W d) ≤ 1
    · refine dt g ⟨isB_0, ?_⟩
      have e : tw W d = false := by unfold tw; simp; omega
      rw [e] at h
      exact h
    · refine df g ⟨isB_1, ?_⟩
      have e : tw W d = true := by unfold tw; simp; omega
      rw [e] at h
      exact h
  · rintro n i v τ hi ⟨rfl, rfl⟩ kk
    rw [wX12_isTwice_4_s]
    have hk := hdk i hi
    obtain ⟨d1, d2⟩ := hD i hi
    have go : ∀ x, x = (if eD2 W d i = true then 1 else 0) → wX12_isTwice_38 (wX12_isTwice_4 post (nI d) n) post (nI d) (nI i) (nI (ct i (eD2 W d))) (nI x) τ := by
      rintro x ex v2 rfl v3 rfl
      rw [nI_1, nI_add]
      refine kk _ _ ⟨rfl, ?_⟩
      rw [ex, ct_s]
    refine df (by rw [hR.bs]; exact nI_ge hi (by omega)) ⟨vin (by omega) (by omega), ?_⟩
    rw [nI_clamp (by omega), d1, d2, nI_eq (by omega) (by omega), nI_eq (by omega) (by omega)]
    by_cases c1 : W 18 i = d
    · exact dt c1 (go 1 (by unfold eD2; simp [c1]))
    · refine df c1 ?_
      by_cases c2 : W 19 i = d
      · exact dn c2 (go 1 (by unfold eD2; simp [c2]))
      · refine dm c2 (go 0 ?_)
        unfold eD2
        have : ¬ d = W 18 i := fun z => c1 z.symm
        have : ¬ d = W 19 i := fun z => c2 z.symm
        simp [*]
/-- what judge says -/
def jdg (W : Vw) : Int32 := if fd (W 0 3) (fun m => !mW W m) < W 0 3 then 1000 + nI (fd (W 0 3) (fun m => !mW W m)) else if fd (W 0 4) (slp W) < W 0 4 then 2000 + nI (fd (W 0 4) (slp W)) else if fd (W 0 0) (bnt W) < W 0 0 then 3000 + nI (fd (W 0 0) (bnt W)) else if fd (W 0 5) (tw W) < W 0 5 then 4000 + nI (fd (W 0 5) (tw W)) else if nI (sm W (W 0 3) (mA W)) ≤ nI (W 0 2) then -1 else 5000
theorem fI_m {n : Nat} (hn : n < 2 ^ 31) (p : Nat → Bool) : fI n p = -1 ↔ ¬ fd n p < n := by
  unfold fI
  split
  · rename_i g
    refine ⟨fun e => ?_, fun z => absurd g z⟩
    have := congrArg Int32.toInt e
    rw [fb_nI (by omega)] at this
    have h1 : (-1 : Int32).toInt = -1 := by decide
    omega
  · rename_i g
    exact ⟨fun _ => g, fun _ => rfl⟩
theorem fI_y {n : Nat} {p : Nat → Bool} (h : fd n p < n) : fI n p = nI (fd n p) := if_pos h
theorem sX_judge {W : Vw} {ids : List Nat} {σ : St} (hv : Iv W) (hd : Dv W) (hM : MX W ids σ) (hD : DX W σ) {post : Int32 → St → Prop} (h : ∀ τ, EqX σ τ → post (jdg W) τ) : wX11_judge ids σ post := by
  have hc := hv.c
  have hdc := hd.1
  refine sX_spin hv hM (fun τ he hS => sX_wellRunning hv hS (sX_lowestBit _ ?_))
  have hq := h τ he
  have hD1 : DX W τ := hD.fr hv (fun _ _ _ => rfl) (fun c k hk => he.2 c k (by unfold kD at hk; unfold scX; omega))
  have ew : fd 32 (bt (bs (W 0 3) (mW W) ^^^ (-1 : Int32))) = if fd (W 0 3) (fun m => !mW W m) < W 0 3 then fd (W 0 3) (fun m => !mW W m) else W 0 3 := by
    have e := fd_ext (n := W 0 3) (m := 32) (p := fun m => !mW W m) (q := bt (bs (W 0 3) (mW W) ^^^ (-1 : Int32))) (by omega) (fun i hi => by
      rw [xor_m1, bt_not _ (by omega), bt_bs _ (by omega) _ _ (by omega)]
      simp [hi]) (fun g _ => by
      rw [xor_m1, bt_not _ (by omega), bt_bs _ (by omega) _ _ (by omega)]
      simp)
    rw [e, if_pos (show W 0 3 < 32 by omega)]
  have e32 : fI 32 (bt (bs (W 0 3) (mW W) ^^^ (-1 : Int32))) = nI (if fd (W 0 3) (fun m => !mW W m) < W 0 3 then fd (W 0 3) (fun m => !mW W m) else W 0 3) := by
    have hl := fd_le (W 0 3) (fun m => !mW W m)
    rw [fI_y (by rw [ew]; split <;> omega), ew]
  rw [e32, hS.1.ms]
  by_cases g1 : fd (W 0 3) (fun m => !mW W m) < W 0 3
  · rw [if_pos g1]
    refine df (nI_ge g1 (by omega)) ?_
    have e : jdg W = 1000 + nI (fd (W 0 3) (fun m => !mW W m)) := by unfold jdg; rw [if_pos g1]
    rw [← e]
    exact hq
  · rw [if_neg g1]
    refine dt (nI_le (Nat.le_refl _) (by omega)) (sX_firstSlipping hv hS ?_)
    rw [fI_m (by omega)]
    by_cases g2 : fd (W 0 4) (slp W) < W 0 4
    · refine df (fun z => z g2) ?_
      have e : jdg W = 2000 + fI (W 0 4) (slp W) := by unfold jdg; rw [if_neg g1, if_pos g2, fI_y g2]
      rw [← e]
      exact hq
    · refine dt g2 (sX_firstBent hv hS ?_)
      rw [fI_m (by omega)]
      by_cases g3 : fd (W 0 0) (bnt W) < W 0 0
      · refine df (fun z => z g3) ?_
        have e : jdg W = 3000 + fI (W 0 0) (bnt W) := by unfold jdg; rw [if_neg g1, if_neg g2, if_pos g3, fI_y g3]
        rw [← e]
        exact hq
      · refine dt g3 (sX_firstShared hv hd hS.1 hD1 ?_)
        rw [fI_m (by omega)]
        by_cases g4 : fd (W 0 5) (tw W) < W 0 5
        · refine df (fun z => z g4) ?_
          have e : jdg W = 4000 + fI (W 0 5) (tw W) := by unfold jdg; rw [if_neg g1, if_neg g2, if_neg g3, if_pos g4, fI_y g4]
          rw [← e]
          exact hq
        · refine dt g4 (sX_loadedInAll hv hS ?_)
          rw [hS.1.pw]
          by_cases g5 : nI (sm W (W 0 3) (mA W)) ≤ nI (W 0 2)
          · refine dt g5 ?_
            have e : jdg W = -1 := by unfold jdg; rw [if_neg g1, if_neg g2, if_neg g3, if_neg g4, if_pos g5]
            show post (-1) τ
            rw [← e]
            exact hq
          · refine df g5 ?_
            have e : jdg W = 5000 := by unfold jdg; rw [if_neg g1, if_neg g2, if_neg g3, if_neg g4, if_neg g5]
            show post 5000 τ
            rw [← e]
            exact hq
theorem fd_all {n : Nat} {p : Nat → Bool} (h : ∀ j, j < n → p j = false) : ¬ fd n p < n := by
  intro z
  have := fd_yes n p z
  rw [h _ z] at this
  exact absurd this (by decide)
theorem sR_judge {W : Vw} {ρ : St} (hv : Iv W) (hd : Dv W) (hR : MR W ρ) (hD : DR W ρ) {post : Int32 → St → Prop} (h : ∀ τ, EqR ρ τ → post (jdg W) τ) : wX12_judge ρ post := by
  have hc := hv.c
  have hdc := hd.1
  refine sR_lays hv hR (fun τ he hS => ?_)
  have hq := h τ he
  have hD1 : DR W τ := hD.fr (fun _ _ _ => rfl) (fun c k hk => he c k (by unfold qD at hk; unfold scR; omega))
  have n0 : ∀ p : Nat → Bool, ∀ j, j < 0 → p j = false := fun p j hj => absurd hj (Nat.not_lt_zero _)
  refine lpc1 (wX12_judge_6 post) (W 0 3) (by omega) (fun i υ => υ = τ ∧ ∀ j, j < i → (fun m => !mW W m) j = false) ?_ ?_ τ ⟨rfl, n0 _⟩
  · rintro n υ ⟨rfl, a1⟩
    rw [wX12_judge_6_s]
    have g1 := fd_all a1
    refine dt (by rw [hS.1.ms]; exact nI_le (Nat.le_refl _) (by omega)) ?_
    refine lpc1 (wX12_judge_36 post) (W 0 4) (by omega) (fun i υ1 => υ1 = υ ∧ ∀ j, j < i → slp W j = false) ?_ ?_ υ ⟨rfl, n0 _⟩
    · rintro n υ1 ⟨rfl, a2⟩
      rw [wX12_judge_36_s]
      have g2 := fd_all a2
      refine dt (by rw [hS.1.bs]; exact nI_le (Nat.le_refl _) (by omega)) ?_
      refine lpc1 (wX12_judge_66 post) (W 0 0) (by omega) (fun i υ2 => υ2 = υ1 ∧ ∀ j, j < i → bnt W j = false) ?_ ?_ υ1 ⟨rfl, n0 _⟩
      · rintro n υ2 ⟨rfl, a3⟩
        rw [wX12_judge_66_s]
        have g3 := fd_all a3
        refine dt (by rw [hS.1.sh]; exact nI_le (Nat.le_refl _) (by omega)) ?_
        refine lpc1 (wX12_judge_102 post) (W 0 5) (by omega) (fun i υ3 => υ3 = υ2 ∧ ∀ j, j < i → tw W j = false) ?_ ?_ υ2 ⟨rfl, n0 _⟩
        · rintro n υ3 ⟨rfl, a4⟩
          rw [wX12_judge_102_s]
          have g4 := fd_all a4
          refine dt (by rw [hD1.1]; exact nI_le (Nat.le_refl _) (by omega)) (sR_allLoaded hv hS ?_)
          rw [hS.1.pw]
          by_cases g5 : nI (sm W (W 0 3) (mA W)) ≤ nI (W 0 2)
          · refine dt g5 ?_
            have e : jdg W = -1 := by unfold jdg; rw [if_neg g1, if_neg g2, if_neg g3, if_neg g4, if_pos g5]
            show post (-1) υ3
            rw [← e]
            exact hq
          · refine df g5 ?_
            have e : jdg W = 5000 := by unfold jdg; rw [if_neg g1, if_neg g2, if_neg g3, if_neg g4, if_neg g5]
            show post 5000 υ3
            rw [← e]
            exact hq
        · rintro n i υ3 hi ⟨rfl, a4⟩ kk
          rw [wX12_judge_102_s]
          refine df (by rw [hD1.1]; exact nI_ge hi (by omega)) (sR_isTwice hv hdc.1 (fun k hk => ⟨(hd.2.2.2.1 k hk).1, (hd.2.2.2.1 k hk).2.1⟩) hS.1 hD1.2.2.1 (by omega) (bI_d (fun b => ?_) (fun b => ?_)))
          · rintro v8 rfl
            rw [nI_1]
            exact kk _ ⟨rfl, all_s a4 b⟩
          · have ei := fd_is (Nat.le_of_lt hi) a4 (fun _ => b)
            have e : jdg W = 4000 + nI i := by unfold jdg; rw [if_neg g1, if_neg g2, if_neg g3, ei, if_pos hi]
            rw [← e]
            exact hq
      · rintro n i υ2 hi ⟨rfl, a3⟩ kk
        rw [wX12_judge_66_s]
        refine df (by rw [hS.1.sh]; exact nI_ge hi (by omega)) (sR_pullsAt hv hS hi ⟨vin (by omega) (by omega), ?_⟩)
        rw [nI_clamp (by omega), (hS.1.s hi).2]
        by_cases b : nI (pu W i (W 0 4)) ≤ nI (W 2 i)
        · refine dt b ?_
          rintro v15 rfl
          rw [nI_1]
          exact kk _ ⟨rfl, all_s a3 (by unfold bnt; simp [b])⟩
        · refine df b ?_
          have ei := fd_is (p := bnt W) (Nat.le_of_lt hi) a3 (fun _ => by unfold bnt; simp [b])
          have e : jdg W = 3000 + nI i := by unfold jdg; rw [if_neg g1, if_neg g2, ei, if_pos hi]
          rw [← e]
          exact hq
    · rintro n i υ1 hi ⟨rfl, a2⟩ kk
      rw [wX12_judge_36_s]
      refine df (by rw [hS.1.bs]; exact nI_ge hi (by omega)) (sR_slips hv hS hi (bI_d (fun b => ?_) (fun b => ?_)))
      · rintro v21 rfl
        rw [nI_1]
        exact kk _ ⟨rfl, all_s a2 b⟩
      · have ei := fd_is (Nat.le_of_lt hi) a2 (fun _ => b)
        have e : jdg W = 2000 + nI i := by unfold jdg; rw [if_neg g1, ei, if_pos hi]
        rw [← e]
        exact hq
  · rintro n i υ hi ⟨rfl, a1⟩ kk
    rw [wX12_judge_6_s]
    refine df (by rw [hS.1.ms]; exact nI_ge hi (by omega)) (sR_runsWell hv hS hi (bI_e (fun b => ?_) (fun b => ?_)))
    · have ei := fd_is (p := fun m => !mW W m) (Nat.le_of_lt hi) a1 (fun _ => by simp [b])
      have e : jdg W = 1000 + nI i := by unfold jdg; rw [ei, if_pos hi]
      rw [← e]
      exact hq
    · rintro v27 rfl
      rw [nI_1]
      exact kk _ ⟨rfl, all_s a1 (by simp [b])⟩
theorem pc_judge {ids : List Nat} {σ ρ : St} (h : Rel ids σ ρ) : wX11_judge ids σ (fun r σ1 => wX12_judge ρ (fun r2 ρ1 => r = r2 ∧ Rel ids σ1 ρ1)) := by
  obtain ⟨-, W, h⟩ := h
  exact sX_judge h.iv h.dv h.mx h.dx (fun τ he => sR_judge h.iv h.dv h.mr h.dr (fun υ e2 => ⟨rfl, (h.eq he e2).rel⟩))
