/-! PURE: calls that only ask -/
def wu (W : Vw) (a b v : Nat) : Vw := fun x y => if x = a ∧ y = b then v else W x y
theorem wu_s (W : Vw) (a b v : Nat) : wu W a b v a b = v := if_pos ⟨rfl, rfl⟩
theorem wu_o {W : Vw} {a b v x y : Nat} (h : ¬ (x = a ∧ y = b)) : wu W a b v x y = W x y := if_neg h
theorem wu_f {W : Vw} {a b v x : Nat} (h : ¬ x = a) (y : Nat) : wu W a b v x y = W x y := if_neg (fun z => h z.1)
theorem xor_m1 (x : Int32) : x ^^^ (-1 : Int32) = ~~~x := by
  apply Int32.toBitVec_inj.mp
  rw [Int32.toBitVec_xor, Int32.toBitVec_not]
  have e : (-1 : Int32).toBitVec = BitVec.allOnes 32 := by decide
  rw [e]
  exact BitVec.xor_allOnes
theorem sX_commonDivisor {W : Vw} {ids : List Nat} {σ : St} (hv : Iv W) (hS : SX W ids σ) {s : Nat} (hs : s < W 0 0) {post : Int64 → St → Prop} (h : post (lN (gT W s)) σ) : wX6_commonDivisor ids (nI s) σ post := by
  have hc := hv.c
  obtain ⟨e1, e2, -⟩ := hS.2 s hs
  have b1 := T_b1 hv s
  have b2 := T_b2 hv s
  have b3 : (T W s).2.1 < 2 ^ 47 := Nat.lt_of_le_of_lt (T_bd hv s).2.2.1 (by decide)
  have pg := gT_p hv s
  refine ⟨vin (by omega) (by omega), ?_⟩
  rw [nI_clamp (by omega), e1, e2]
  rintro v rfl w rfl
  have e200 : (200 : Int32) = nI 200 := rfl
  have key := lpq1 (A1 := Int64 × Int64 × Int32) (fun n p τ => wX6_commonDivisor_18 ids post n p.1 p.2.1 p.2.2 τ) (fun m p τ => τ = σ ∧ ∃ x y i, x < 2 ^ 63 ∧ y < 2 ^ 63 ∧ p = (lN x, lN y, nI i) ∧ i ≤ 200 ∧ m = 200 - i ∧ Nat.gcd x y = gT W s ∧ ((i = 0 ∧ y < 2 ^ 47) ∨ (1 ≤ i ∧ y ≤ x ∧ x * y * 2 ^ (i - 1) < 2 ^ 104))) ?_ 200 (lN (T W s).1, lN (T W s).2.1, 0) σ ⟨rfl, (T W s).1, (T W s).2.1, 0, b1, b2, rfl, by omega, rfl, rfl, Or.inl ⟨rfl, b3⟩⟩
  · exact key
  · rintro n m p τ ⟨rfl, x, y, i, hx, hy, rfl, hi, rfl, hg, hq⟩ kk
    show wX6_commonDivisor_18 ids post (n + 1) (lN x) (lN y) (nI i) τ
    rw [wX6_commonDivisor_18_s, e200]
    have done : y = 0 → wX6_commonDivisor_52 ids post (lN x) τ := by
      intro z
      rw [z, Nat.gcd_zero_right] at hg
      show post (if lN x < (1 : Int64) then (1 : Int64) else lN x) τ
      rw [lN_mx1 hx (by omega), hg]
      exact h
    rcases Nat.lt_or_ge i 200 with g | g
    · refine df (nI_ge g (by omega)) ?_
      rw [lg_cmp_eq, lN_0, lN_eqI hy (by decide)]
      by_cases z : y = 0
      · exact dt z (done z)
      · refine df z ⟨z, ?_⟩
        rw [lN_rem hx hy]
        rintro v4 rfl v5 rfl
        rw [nI_1]
        have hl : x % y < y := Nat.mod_lt _ (by omega)
        refine kk (200 - (i + 1)) (lN y, lN (x % y), nI (i + 1)) τ ⟨rfl, y, x % y, i + 1, hy, by omega, rfl, by omega, rfl, ?_, Or.inr ⟨by omega, by omega, ?_⟩⟩ (by omega)
        · rw [← hg, Nat.gcd_comm x y, Nat.gcd_rec y x, Nat.gcd_comm]
        · rcases hq with ⟨rfl, q⟩ | ⟨q1, q2, q3⟩
          · have := Nat.mul_le_mul (Nat.le_of_lt q) (Nat.le_of_lt (Nat.lt_trans hl q))
            have e : (2 : Nat) ^ 47 * 2 ^ 47 = 2 ^ 94 := by decide
            have e94 : (2 : Nat) ^ 94 < 2 ^ 104 := by decide
            simp only [Nat.zero_add, Nat.sub_self, Nat.pow_zero, Nat.mul_one]
            omega
          · have d1 := Nat.div_add_mod x y
            have d2 : 1 ≤ x / y := (Nat.le_div_iff_mul_le (by omega)).mpr (by omega)
            have d3 : y * 1 ≤ y * (x / y) := Nat.mul_le_mul_left y d2
            have d4 : x % y * 2 ≤ x := by omega
            have e1 : i + 1 - 1 = (i - 1) + 1 := by omega
            rw [e1, Nat.pow_succ]
            have e2 : y * (x % y) * (2 ^ (i - 1) * 2) = y * (x % y * 2) * 2 ^ (i - 1) := by
              rw [Nat.mul_comm (2 ^ (i - 1)) 2, ← Nat.mul_assoc, Nat.mul_assoc y]
            rw [e2]
            refine Nat.lt_of_le_of_lt (Nat.mul_le_mul_right _ (Nat.mul_le_mul_left y d4)) ?_
            rw [Nat.mul_comm y x]
            exact q3
    · refine dt (nI_le g (by omega)) (done ?_)
      have : i = 200 := by omega
      subst this
      rcases hq with ⟨q, -⟩ | ⟨q1, q2, q3⟩
      · omega
      · rcases Nat.eq_zero_or_pos y with z | z
        · exact z
        · have p1 : 1 * 1 ≤ x * y := Nat.mul_le_mul (by omega) z
          have p2 := Nat.mul_le_mul_right (2 ^ (200 - 1)) p1
          have p3 : (2 : Nat) ^ 104 ≤ 1 * 1 * 2 ^ (200 - 1) := by decide
          omega
theorem sX_asBit {ids : List Nat} {σ : St} (b : Bool) {post : Int32 → St → Prop} (h : post (bI b) σ) : wX11_asBit ids (bI b) σ post := by
  cases b
  · exact dt rfl h
  · exact df (by decide) h
theorem sX_asBitN {ids : List Nat} {σ : St} {n : Nat} (hn : n ≤ 1) {post : Int32 → St → Prop} (h : post (nI n) σ) : wX11_asBit ids (nI n) σ post := by
  have : n = 0 ∨ n = 1 := by omega
  rcases this with rfl | rfl
  · exact dt rfl h
  · exact df (by decide) h
-- count
theorem pc_count {ids : List Nat} {σ ρ : St} (a1 : Int32) (h : Rel ids σ ρ) : wX11_count ids a1 σ (fun r σ1 => wX12_count a1 ρ (fun r2 ρ1 => r = r2 ∧ Rel ids σ1 ρ1)) := by
  obtain ⟨-, W, h⟩ := h
  have e0 : gI σ 1 0 = gI ρ 0 9 := h.mx.sh.trans h.mr.sh.symm
  have e1 : gI σ 1 1 = gI ρ 0 18 := h.mx.ms.trans h.mr.ms.symm
  have e2 : gI σ 1 2 = gI ρ 0 20 := h.dx.1.trans h.dr.1.symm
  have e3 : gI σ 1 3 = gI ρ 0 28 := h.mx.bs.trans h.mr.bs.symm
  have e4 : gI σ 0 3 = gI ρ 0 3 := h.ts.1.trans h.tq.1.symm
  have e5 : gI σ 2 1 = gI ρ 0 6 := h.ts.2.2.1.trans h.tq.2.2.1.symm
  have e6 : gI σ 0 4 = gI ρ 0 4 := h.ts.2.1.trans h.tq.2.1.symm
  have hr := h.rel
  rintro v rfl
  refine ⟨?_, ?_, ?_, ?_, ?_, ?_, ?_, ?_⟩
  · rintro rfl
    rintro w rfl
    refine ⟨?_, ?_, ?_, ?_, ?_, ?_, ?_, ?_⟩ <;> intro d <;> first | exact ⟨e0, hr⟩ | exact absurd d (by decide)
  · rintro rfl
    rintro w rfl
    refine ⟨?_, ?_, ?_, ?_, ?_, ?_, ?_, ?_⟩ <;> intro d <;> first | exact ⟨e1, hr⟩ | exact absurd d (by decide)
  · rintro rfl
    rintro w rfl
    refine ⟨?_, ?_, ?_, ?_, ?_, ?_, ?_, ?_⟩ <;> intro d <;> first | exact ⟨e2, hr⟩ | exact absurd d (by decide)
  · rintro rfl
    rintro w rfl
    refine ⟨?_, ?_, ?_, ?_, ?_, ?_, ?_, ?_⟩ <;> intro d <;> first | exact ⟨e3, hr⟩ | exact absurd d (by decide)
  · rintro rfl
    rintro w rfl
    refine ⟨?_, ?_, ?_, ?_, ?_, ?_, ?_, ?_⟩ <;> intro d <;> first | exact ⟨e4, hr⟩ | exact absurd d (by decide)
  · rintro rfl
    rintro w rfl
    refine ⟨?_, ?_, ?_, ?_, ?_, ?_, ?_, ?_⟩ <;> intro d <;> first | exact ⟨e5, hr⟩ | exact absurd d (by decide)
  · rintro rfl
    rintro w rfl
    refine ⟨?_, ?_, ?_, ?_, ?_, ?_, ?_, ?_⟩ <;> intro d <;> first | exact ⟨e6, hr⟩ | exact absurd d (by decide)
  · rintro ⟨c0, c1, c2, c3, c4, c5, c6⟩
    rintro w rfl
    exact ⟨fun d => absurd d c0, fun d => absurd d c1, fun d => absurd d c2, fun d => absurd d c3, fun d => absurd d c4, fun d => absurd d c5, fun d => absurd d c6, fun _ => ⟨rfl, hr⟩⟩
-- runs
theorem sR_runs23 {W : Vw} {ρ : St} (hv : Iv W) (hS : SR W ρ) (a : Int32) (p : Nat → Bool) (hp0 : a = 0 → p = mW W) (hp1 : ¬ a = 0 → p = mT W) {post : Int32 → St → Prop} (h1 : ¬ a = 2 → post (bs (W 0 3) p) ρ) (h2 : a = 2 → post (nI (sm W (W 0 3) (mA W))) ρ) : ∃ N, wX12_runs_23 post a N 0 0 ρ := by
  have hc := hv.c
  refine lpc2 (wX12_runs_23 post a) (W 0 3) (by omega) (fun i v τ => τ = ρ ∧ v = bs i p) ?_ ?_ 0 ρ ⟨rfl, rfl⟩
  · rintro n v τ ⟨rfl, rfl⟩
    rw [wX12_runs_23_s]
    refine dt (by rw [hS.1.ms]; exact nI_le (Nat.le_refl _) (by omega)) ⟨h1, fun c => ?_⟩
    exact sR_allLoaded hv hS (h2 c)
  · rintro n i v τ hi ⟨rfl, rfl⟩ kk
    rw [wX12_runs_23_s]
    obtain ⟨m1, m2, m3, m4, m5, m6⟩ := hS.1.m hi
    have hm := hv.m hi
    have o0 : bs i p ||| 0 = bs i p := bt_ext (fun t _ => by rw [bt_or, bt_0, Bool.or_false])
    have yes : p i = true → wX12_runs_61 (wX12_runs_23 post a n) post a (nI i) (bs i p) τ := by
      rintro c v1 rfl v2 rfl
      rw [nI_1, bs_t c]
      exact kk _ _ ⟨rfl, rfl⟩
    have no : p i = false → wX12_runs_67 (wX12_runs_23 post a n) post a (nI i) (bs i p) τ := by
      rintro c v1 rfl v2 rfl
      rw [nI_1, o0, bs_f (by rw [c]; decide)]
      exact kk _ _ ⟨rfl, rfl⟩
    refine df (by rw [hS.1.ms]; exact nI_ge hi (by omega)) ⟨fun c => ?_, fun c => ?_⟩
    · refine ⟨vin (by omega) (by omega), ?_⟩
      rw [nI_clamp (by omega), m1, nI_clamp (by omega), sR_ways hv hS (by omega)]
      refine ⟨vin (by omega) (by omega), ?_⟩
      have e : p i = mT W i := by rw [hp1 c]
      by_cases z : (T W (W 3 i)).1 = 0
      · exact dt z (no (by rw [e]; unfold mT; simp [z]))
      · exact df z (yes (by rw [e]; unfold mT; simp; omega))
    · have e : p i = mW W i := by rw [hp0 c]
      exact sR_runsWell hv hS hi (bI_d (fun b => no (by rw [e, b])) (fun b => yes (by rw [e, b])))
theorem pc_runs {ids : List Nat} {σ ρ : St} (a1 : Int32) (h : Rel ids σ ρ) : wX11_runs ids a1 σ (fun r σ1 => wX12_runs a1 ρ (fun r2 ρ1 => r = r2 ∧ Rel ids σ1 ρ1)) := by
  obtain ⟨-, W, h⟩ := h
  have hv := h.iv
  refine sX_spin hv h.mx (fun τ he hS => ?_)
  rintro v rfl
  refine ⟨?_, ?_, ?_, ?_⟩
  · rintro rfl
    refine sX_wellRunning hv hS ?_
    refine sR_inI 0 2 rfl rfl ?_
    exact ⟨fun _ => sR_lays hv h.mr (fun υ e2 hS2 => sR_runs23 hv hS2 0 (mW W) (fun _ => rfl) (fun c => absurd rfl c) (fun _ => ⟨rfl, (h.eq he e2).rel⟩) (fun c => absurd c (by decide))), fun c => absurd c (by decide)⟩
  · rintro rfl
    refine sX_turning hv hS ?_
    refine sR_inI 0 2 rfl rfl ?_
    exact ⟨fun _ => sR_lays hv h.mr (fun υ e2 hS2 => sR_runs23 hv hS2 1 (mT W) (fun c => absurd c (by decide)) (fun c => rfl) (fun _ => ⟨rfl, (h.eq he e2).rel⟩) (fun c => absurd c (by decide))), fun c => absurd c (by decide)⟩
  · rintro rfl
    refine sX_loadedInAll hv hS ?_
    refine sR_inI 0 2 rfl rfl ?_
    exact ⟨fun _ => sR_lays hv h.mr (fun υ e2 hS2 => sR_runs23 hv hS2 2 (mT W) (fun c => absurd c (by decide)) (fun c => rfl) (fun c => absurd rfl c) (fun _ => ⟨rfl, (h.eq he e2).rel⟩)), fun c => absurd c (by decide)⟩
  · rintro ⟨c0, c1, c2⟩
    refine sR_inI 0 2 rfl rfl ?_
    refine bI_e (fun _ => ⟨rfl, (h.eq he (EqR.rf ρ)).rel⟩) (fun b => ?_)
    obtain ⟨j, hj, e⟩ := wi_k (N := 2) b
    have : j = 0 ∨ j = 1 ∨ j = 2 := by omega
    rcases this with rfl | rfl | rfl
    · exact absurd e c0
    · exact absurd e c1
    · exact absurd e c2
-- turns
theorem iI_l {z : Int} (h : z = 0 ∨ z = 1 ∨ z = -1) : (iI z).toInt64 = Int64.ofInt z := by
  rcases h with rfl | rfl | rfl <;> decide
theorem pc_turns {ids : List Nat} {σ ρ : St} (a1 : Int32) (a2 : Int32) (h : Rel ids σ ρ) : wX11_turns ids a1 a2 σ (fun r σ1 => wX12_turns a1 a2 ρ (fun r2 ρ1 => r = r2 ∧ Rel ids σ1 ρ1)) := by
  obtain ⟨-, W, h⟩ := h
  have hv := h.iv
  have hc := hv.c
  refine sX_isShaft hv h.mx a1 (bI_e (fun b => ?_) (fun b => ?_))
  · refine sR_isShaft hv h.mr a1 ?_
    rw [b]
    exact dt rfl ⟨rfl, h.rel⟩
  · obtain ⟨s, hs, rfl⟩ := wi_n (by omega) b
    refine sX_spin hv h.mx (fun τ he hS => ?_)
    refine sX_commonDivisor hv hS hs ?_
    have rS : ∀ post, (∀ υ, EqR ρ υ → SR W υ → (a2 = 0 → post (lN (rA W s)) υ) ∧ (a2 = 1 → post (lN (rB W s)) υ) ∧ (a2 = 2 → post ((iI (T W s).2.2).toInt64) υ) ∧ (a2 = 3 → post (nI (pu W s (W 0 4))).toInt64 υ) ∧ (a2 = 4 → post ((bI (bnt W s)).toInt64) υ)) → (¬ a2 = 0 → ¬ a2 = 1 → ¬ a2 = 2 → ¬ a2 = 3 → ¬ a2 = 4 → post (-4611686018427387904) ρ) → wX12_turns (nI s) a2 ρ post := by
      intro post p1 p2
      refine sR_isShaft hv h.mr _ ?_
      rw [b]
      refine df (by decide) (sR_inI 0 4 rfl rfl (bI_e (fun b2 => ?_) (fun b2 => ?_)))
      · refine p2 ?_ ?_ ?_ ?_ ?_ <;> (rintro rfl; exact absurd b2 (by decide))
      · refine sR_lays hv h.mr (fun υ e2 hS2 => ?_)
        obtain ⟨q0, q1, q2, q3, q4⟩ := p1 υ e2 hS2
        have v2 := hS2.2 s (by omega)
        have hbt := (hS2.1.s hs).2
        rintro v rfl
        refine ⟨fun c => ⟨vin (by omega) (by omega), ?_⟩, fun c => ⟨vin (by omega) (by omega), ?_⟩, fun c => ⟨vin (by omega) (by omega), ?_⟩, fun c => ?_, fun c => ?_⟩
        · rw [nI_clamp (by omega), v2.1]; exact q0 c
        · rw [nI_clamp (by omega), v2.2.1]; exact q1 c
        · rw [nI_clamp (by omega), v2.2.2]; exact q2 c
        · exact sR_pullsAt hv hS2 hs (q3 c)
        · refine sR_pullsAt hv hS2 hs ⟨vin (by omega) (by omega), ?_⟩
          obtain ⟨j, hj, e⟩ := wi_k (N := 4) b2
          have : j = 0 ∨ j = 1 ∨ j = 2 ∨ j = 3 ∨ j = 4 := by omega
          have c4 : v = 4 := by
            rcases this with rfl | rfl | rfl | rfl | rfl
            · exact absurd e c.1
            · exact absurd e c.2.1
            · exact absurd e c.2.2.1
            · exact absurd e c.2.2.2
            · exact e
          have q := q4 c4
          rw [nI_clamp (by omega), hbt]
          by_cases g : nI (pu W s (W 0 4)) ≤ nI (W 2 s)
          · refine dt g ?_
            have e : bnt W s = false := by unfold bnt; simp [g]
            rw [e] at q
            exact q
          · refine df g ?_
            have e : bnt W s = true := by unfold bnt; simp [g]
            rw [e] at q
            exact q
    have pg := gT_p hv s
    have lg : gT W s < 2 ^ 63 := Nat.lt_of_le_of_lt (Nat.gcd_le_right _ (T_p hv s)) (T_b2 hv s)
    obtain ⟨t1, t2, t3⟩ := hS.2 s hs
    rintro v rfl
    refine ⟨fun c => ⟨vin (by omega) (by omega), lN_n0 lg pg, ?_⟩, fun c => ⟨vin (by omega) (by omega), lN_n0 lg pg, ?_⟩, fun c => ⟨vin (by omega) (by omega), ?_⟩, fun c => ?_, fun c => ?_, fun c => ?_⟩
    · subst c
      rw [nI_clamp (by omega), t1, lN_div (T_b1 hv s) lg]
      exact rS _ (fun υ e2 hS2 => ⟨fun _ => ⟨rfl, (h.eq he e2).rel⟩, fun c => absurd c (by decide), fun c => absurd c (by decide), fun c => absurd c (by decide), fun c => absurd c (by decide)⟩) (fun c => absurd rfl c)
    · subst c
      rw [nI_clamp (by omega), t2, lN_div (T_b2 hv s) lg]
      exact rS _ (fun υ e2 hS2 => ⟨fun c => absurd c (by decide), fun _ => ⟨rfl, (h.eq he e2).rel⟩, fun c => absurd c (by decide), fun c => absurd c (by decide), fun c => absurd c (by decide)⟩) (fun _ c => absurd rfl c)
    · subst c
      rw [nI_clamp (by omega), t3]
      exact rS _ (fun υ e2 hS2 => ⟨fun c => absurd c (by decide), fun c => absurd c (by decide), fun _ => ⟨rfl, (h.eq he e2).rel⟩, fun c => absurd c (by decide), fun c => absurd c (by decide)⟩) (fun _ _ c => absurd rfl c)
    · subst c
      refine sX_pulls hv hS hs ?_
      exact rS _ (fun υ e2 hS2 => ⟨fun c => absurd c (by decide), fun c => absurd c (by decide), fun c => absurd c (by decide), fun _ => ⟨rfl, (h.eq he e2).rel⟩, fun c => absurd c (by decide)⟩) (fun _ _ _ c => absurd rfl c)
    · subst c
      refine sX_isBent hv hS hs (sX_asBit _ ?_)
      exact rS _ (fun υ e2 hS2 => ⟨fun c => absurd c (by decide), fun c => absurd c (by decide), fun c => absurd c (by decide), fun c => absurd c (by decide), fun _ => ⟨rfl, (h.eq he e2).rel⟩⟩) (fun _ _ _ _ c => absurd rfl c)
    · obtain ⟨c0, c1, c2, c3, c4⟩ := c
      exact rS _ (fun υ e2 hS2 => ⟨fun c => absurd c c0, fun c => absurd c c1, fun c => absurd c c2, fun c => absurd c c3, fun c => absurd c c4⟩) (fun _ _ _ _ _ => ⟨rfl, (h.eq he (EqR.rf ρ)).rel⟩)
-- one belt off
theorem Iv.on {W : Vw} (h : Iv W) (k : Nat) {v : Nat} (hv : v ≤ 1) : Iv (wu W 14 k v) := by
  obtain ⟨h1, h2, h3, h4, h5, h6, h7, h8⟩ := h
  refine ⟨h1, h2, h3, ?_, h5, h6, h7, h8⟩
  intro j hj
  obtain ⟨b1, b2, b3, b4, b5, b6, b7, b8⟩ := h4 j hj
  refine ⟨b1, b2, b3, b4, b5, b6, ?_, b8⟩
  unfold wu
  split
  · exact hv
  · exact b7
theorem MX.on {W : Vw} {ids : List Nat} {σ : St} (hv : Iv W) (h : MX W ids σ) {k : Nat} (hk : k < W 0 4) (v : Nat) : MX (wu W 14 k v) ids (uI σ (bO W k) 8 (nI v)) := by
  have hr := bO_r hv hk
  have hc := hv.c
  have n : ∀ c j, ¬ (c = bO W k ∧ j = 8) → gI (uI σ (bO W k) 8 (nI v)) c j = gI σ c j := fun c j h => gI_o h
  refine ⟨?_, ?_, ?_, ?_, ?_⟩
  · obtain ⟨h1, h2, h3, h4, h5⟩ := h.1
    refine ⟨?_, ?_, ?_, ?_, ?_⟩
    all_goals rw [n _ _ (by omega)]
    all_goals assumption
  · intro s hs
    obtain ⟨h1, h2⟩ := h.s hs
    refine ⟨?_, ?_⟩
    all_goals rw [n _ _ (by omega)]
    all_goals assumption
  · intro m hm
    have hm' : m < W 0 3 := hm
    obtain ⟨h1, h2, h3, h4, h5, h6, h7, h8⟩ := h.m hm'
    refine ⟨h1, h2, ?_, ?_, ?_, ?_, ?_, ?_⟩
    all_goals rw [n _ _ (by omega)]
    all_goals assumption
  · intro j hj
    have hj' : j < W 0 4 := hj
    have hr2 := bO_r hv hj'
    obtain ⟨h1, h2, h3, h4, h5, h6, h7, h8, h9⟩ := h.b hj'
    have eb : bO (wu W 14 k v) j = bO W j := rfl
    rw [eb]
    refine ⟨h1, h2, ?_, ?_, ?_, ?_, ?_, ?_, ?_⟩
    · rw [n _ _ (by omega)]; exact h3
    · rw [n _ _ (by omega)]; exact h4
    · rw [n _ _ (by omega)]; exact h5
    · rw [n _ _ (by omega)]; exact h6
    · rw [n _ _ (by omega)]; exact h7
    · rw [n _ _ (by omega)]; exact h8
    · by_cases e : j = k
      · subst e
        rw [wu_s, gI_s]
      · rw [wu_o (by omega), n _ _ (by have : ¬ bO W j = bO W k := (by unfold bO; have := (hv.b hk).1; have := (hv.b hj').1; omega); omega)]
        exact h9
  · intro i hi
    rw [n _ _ (by omega)]
    exact h.o hi
theorem MR.on {W : Vw} {ρ : St} (h : MR W ρ) (k v : Nat) : MR (wu W 14 k v) (uI ρ 19 k (nI v)) := by
  have n : ∀ c j, ¬ (c = 19 ∧ j = k) → gI (uI ρ 19 k (nI v)) c j = gI ρ c j := fun c j h => gI_o h
  have q : ∀ j, gI (uI ρ 19 k (nI v)) 0 j = gI ρ 0 j := fun j => n 0 j (by omega)
  have q2 : ∀ c, 4 ≤ c → c ≤ 18 → ∀ j, gI (uI ρ 19 k (nI v)) c j = gI ρ c j := fun c h1 h2 j => n c j (by omega)
  unfold MR
  simp only [q, q2 4 (by omega) (by omega), q2 5 (by omega) (by omega), q2 6 (by omega) (by omega), q2 7 (by omega) (by omega), q2 8 (by omega) (by omega), q2 9 (by omega) (by omega), q2 10 (by omega) (by omega), q2 11 (by omega) (by omega), q2 12 (by omega) (by omega), q2 13 (by omega) (by omega), q2 14 (by omega) (by omega), q2 15 (by omega) (by omega), q2 16 (by omega) (by omega), q2 17 (by omega) (by omega), q2 18 (by omega) (by omega)]
  refine ⟨h.1, h.2.1, h.2.2.1, fun j hj => ?_⟩
  obtain ⟨r1, r2, r3, r4, r5, r6, r7⟩ := h.b hj
  refine ⟨r1, r2, r3, r4, ?_, r6, r7⟩
  by_cases e : j = k
  · subst e
    rw [wu_s, gI_s]
  · rw [wu_o (by omega), n _ _ (by omega)]
    exact r5
/-- the machines that turn, and would not if a belt were off -/
def stb (W : Vw) (k m : Nat) : Bool := mT W m && !mT (wu W 14 k 0) m
theorem sX_stoppedBy {W : Vw} {ids : List Nat} {σ : St} (hv : Iv W) (hM : MX W ids σ) {k : Nat} (hk : k < W 0 4) {post : Int32 → St → Prop} (h : ∀ τ, EqX σ τ → post (bs (W 0 3) (stb W k)) τ) : wX11_stoppedBy ids (bO W k) σ post := by
  have hc := hv.c
  have hr := bO_r hv hk
  have hb := hv.b hk
  have hv2 := hv.on k (v := 0) (by omega)
  refine sX_spin hv hM (fun τ he hS => sX_turning hv hS ?_)
  have b8 := (hS.1.b hk).2.2.2.2.2.2.2.2
  rw [b8]
  rintro v rfl σ5 rfl
  have hM2 := hS.1.on hv hk 0
  rw [nI_0] at hM2
  refine sX_spin hv2 hM2 (fun υ he2 hS2 => sX_turning hv2 hS2 ?_)
  refine ⟨?_, ?_⟩
  · have : W 14 k = 0 ∨ W 14 k = 1 := by omega
    rcases this with e | e <;> rw [e]
    · exact isB_0
    · exact isB_1
  · rintro σ10 rfl
    have e3 : wu W 14 k 0 0 3 = W 0 3 := rfl
    rw [xor_m1, e3, bs_andn (by omega)]
    refine h _ ⟨fun c j => ?_, fun c j hn => ?_⟩
    · rw [gR_uI, he2.1, gR_uI, he.1]
    · rw [gI_uI]
      split
      · rename_i g
        obtain ⟨rfl, rfl⟩ := g
        exact ((hM.b hk).2.2.2.2.2.2.2.2).symm
      · rename_i g
        rw [he2.2 c j hn, gI_o g, he.2 c j hn]
theorem sR_standsBy {W : Vw} {ρ : St} (hv : Iv W) (hR : MR W ρ) {k : Nat} (hk : k < W 0 4) {post : Int32 → St → Prop} (h : ∀ τ, EqR ρ τ → post (bs (W 0 3) (stb W k)) τ) : wX12_standsBy (nI k) ρ post := by
  have hc := hv.c
  have hb := hv.b hk
  have hv2 := hv.on k (v := 0) (by omega)
  refine sR_turning hv hR (fun τ he hS => ⟨vin (by omega) (by omega), ?_⟩)
  have r5 := (hS.1.b hk).2.2.2.2.1
  rw [nI_clamp (by omega), r5]
  rintro v rfl σ5 rfl
  have hM2 := hS.1.on k 0
  rw [nI_0] at hM2
  refine sR_turning hv2 hM2 (fun υ he2 hS2 => ?_)
  rintro σ10 rfl
  have e3 : wu W 14 k 0 0 3 = W 0 3 := rfl
  rw [xor_m1, e3, bs_andn (by omega)]
  refine h _ (fun c j hn => ?_)
  rw [gI_uI]
  split
  · rename_i g
    obtain ⟨rfl, rfl⟩ := g
    exact ((hR.b hk).2.2.2.2.1).symm
  · rename_i g
    rw [he2 c j hn, gI_o g, he c j hn]
theorem pc_off {ids : List Nat} {σ ρ : St} (a1 : Int32) (h : Rel ids σ ρ) : wX11_off ids a1 σ (fun r σ1 => wX12_off a1 ρ (fun r2 ρ1 => r = r2 ∧ Rel ids σ1 ρ1)) := by
  obtain ⟨-, W, h⟩ := h
  have hv := h.iv
  have hc := hv.c
  refine sX_isBelt hv h.mx a1 (bI_d (fun b => ?_) (fun b => ?_))
  · refine sR_isBelt hv h.mr a1 ?_
    rw [b]
    exact dt rfl ⟨rfl, h.rel⟩
  · obtain ⟨k, hk, rfl⟩ := wi_n (by omega) b
    refine ⟨vin (by omega) (by omega), bO W k, by rw [nI_clamp (by omega)]; exact (h.mx.b hk).1, h.mx.okB hv hk, sX_stoppedBy hv h.mx hk (fun τ he => ?_)⟩
    refine sR_isBelt hv h.mr _ ?_
    rw [b]
    exact df (by decide) (sR_standsBy hv h.mr hk (fun υ e2 => ⟨rfl, (h.eq he e2).rel⟩))
-- the belt on which most hang
def hgc (W : Vw) (k : Nat) : Nat := ct (W 0 3) (fun m => stb W k m && mA W m)
def hgs (W : Vw) : Nat → Int32 × Nat := fun n => Nat.rec (-1, 0) (fun i ih => if ih.2 < hgc W i then (nI i, hgc W i) else ih) n
theorem hgs_s (W : Vw) (i : Nat) : hgs W (i + 1) = if (hgs W i).2 < hgc W i then (nI i, hgc W i) else hgs W i := rfl
theorem hgs_l {W : Vw} (hv : Iv W) (i : Nat) : (hgs W i).2 ≤ 10 := by
  have hc := hv.c
  induction i with
  | zero => exact Nat.zero_le _
  | succ i ih =>
    rw [hgs_s]
    split
    · exact Nat.le_trans (ct_le _ _) hc.2.2.2.2.1
    · exact ih
theorem sX_hangs {W : Vw} {ids : List Nat} {σ : St} (hv : Iv W) (hM : MX W ids σ) {post : Int32 → St → Prop} (h : ∀ τ, EqX σ τ → post (hgs W (W 0 4)).1 τ) : wX11_hangs ids σ post := by
  have hc := hv.c
  refine lpc3 (wX11_hangs_6 ids post) (W 0 4) (by omega) (fun i v w τ => EqX σ τ ∧ v = (hgs W i).1 ∧ w = nI (hgs W i).2) ?_ ?_ (-1) 0 σ ⟨EqX.rf σ, rfl, rfl⟩
  · rintro n v w τ ⟨he, rfl, rfl⟩
    rw [wX11_hangs_6_s]
    exact dt (by rw [(hM.eq hv he).bs]; exact nI_le (Nat.le_refl _) (by omega)) (h τ he)
  · rintro n i v w τ hi ⟨he, rfl, rfl⟩ kk
    rw [wX11_hangs_6_s]
    have hM1 := hM.eq hv he
    have hl := hgs_l hv i
    refine df (by rw [hM1.bs]; exact nI_ge hi (by omega)) ⟨vin (by omega) (by omega), bO W i, by rw [nI_clamp (by omega)]; exact (hM1.b hi).1, hM1.okB hv hi, sX_stoppedBy hv hM1 hi (fun υ he2 => ?_)⟩
    refine sX_switchedOn hv (hM1.eq hv he2) (sJ6_bitCount ?_)
    have hcl : hgc W i ≤ 10 := Nat.le_trans (ct_le _ _) hc.2.2.2.2.1
    rw [bs_and (by omega), bc_bs (by omega)]
    have e : ct (W 0 3) (fun m => stb W i m && mA W m) = hgc W i := rfl
    rw [e, nI_leI (by omega) (by omega)]
    have go : ∀ v w, v = (hgs W (i + 1)).1 → w = nI (hgs W (i + 1)).2 → wX11_hangs_54 ids (wX11_hangs_6 ids post n) post v w (nI i) υ := by
      rintro v w ev ew v1 rfl
      rw [nI_1]
      exact kk _ _ _ ⟨he.tr he2, ev, ew⟩
    by_cases g : hgc W i ≤ (hgs W i).2
    · refine dt g (go _ _ ?_ ?_) <;> rw [hgs_s, if_neg (by omega)]
    · refine df g (go _ _ ?_ ?_) <;> rw [hgs_s, if_pos (by omega)]
theorem sR_hangs {W : Vw} {ρ : St} (hv : Iv W) (hR : MR W ρ) {post : Int32 → St → Prop} (h : ∀ τ, EqR ρ τ → post (hgs W (W 0 4)).1 τ) : wX12_hangs ρ post := by
  have hc := hv.c
  refine lpc3 (wX12_hangs_6 post) (W 0 4) (by omega) (fun i v w τ => EqR ρ τ ∧ v = (hgs W i).1 ∧ w = nI (hgs W i).2) ?_ ?_ (-1) 0 ρ ⟨EqR.rf ρ, rfl, rfl⟩
  · rintro n v w τ ⟨he, rfl, rfl⟩
    rw [wX12_hangs_6_s]
    exact dt (by rw [(hR.eq he).bs]; exact nI_le (Nat.le_refl _) (by omega)) (h τ he)
  · rintro n i v w τ hi ⟨he, rfl, rfl⟩ kk
    rw [wX12_hangs_6_s]
    have hR1 := hR.eq he
    have hl := hgs_l hv i
    have hcl : hgc W i ≤ 10 := Nat.le_trans (ct_le _ _) hc.2.2.2.2.1
    refine df (by rw [hR1.bs]; exact nI_ge hi (by omega)) (sR_standsBy hv hR1 hi (fun υ he2 => ?_))
    have hR2 := hR1.eq he2
    refine lpc2 (wX12_hangs_27 (wX12_hangs_6 post n) post (hgs W i).1 (nI (hgs W i).2) (nI i) (bs (W 0 3) (stb W i))) (W 0 3) (by omega) (fun j v τ => τ = υ ∧ v = nI (ct j (fun m => stb W i m && mA W m))) ?_ ?_ 0 υ ⟨rfl, rfl⟩
    · rintro n1 v τ1 ⟨rfl, rfl⟩
      rw [wX12_hangs_27_s]
      refine dt (by rw [hR2.ms]; exact nI_le (Nat.le_refl _) (by omega)) ?_
      have e : ct (W 0 3) (fun m => stb W i m && mA W m) = hgc W i := rfl
      rw [e, nI_ltI (by omega) (by omega)]
      have go : ∀ v w, v = (hgs W (i + 1)).1 → w = nI (hgs W (i + 1)).2 → wX12_hangs_88 (wX12_hangs_6 post n) post v w (nI i) τ1 := by
        rintro v w ev ew v1 rfl
        rw [nI_1]
        exact kk _ _ _ ⟨he.tr he2, ev, ew⟩
      by_cases g : (hgs W i).2 < hgc W i
      · refine dt g (go _ _ ?_ ?_) <;> rw [hgs_s, if_pos g]
      · refine df g (go _ _ ?_ ?_) <;> rw [hgs_s, if_neg g]
    · rintro n1 j v τ1 hj ⟨rfl, rfl⟩ kk2
      rw [wX12_hangs_27_s]
      obtain ⟨m1, m2, m3, m4, m5, m6⟩ := hR2.m hj
      have hm := hv.m hj
      have go : ∀ x, x = (if (stb W i j && mA W j) = true then 1 else 0) → wX12_hangs_65 (wX12_hangs_6 post n) (wX12_hangs_27 (wX12_hangs_6 post n) post (hgs W i).1 (nI (hgs W i).2) (nI i) (bs (W 0 3) (stb W i)) n1) post (hgs W i).1 (nI (hgs W i).2) (nI i) (bs (W 0 3) (stb W i)) (nI j) (nI (ct j (fun m => stb W i m && mA W m))) (nI x) τ1 := by
        rintro x ex v2 rfl v3 rfl
        rw [nI_1, nI_add]
        refine kk2 _ _ ⟨rfl, ?_⟩
        rw [ex, ct_s]
      refine df (by rw [hR2.ms]; exact nI_ge hj (by omega)) ⟨vin (by omega) (by omega), ?_⟩
      have e1 : ∀ x : Nat, x ≤ 1 → (nI x = (1 : Int32) ↔ x = 1) := fun x hx => nI_eq (b := 1) (by omega) (by omega)
      rw [nI_clamp (by omega), m6, e1 _ hm.2.2.2.2.2, bt_t _ (i := j) (by omega), bt_bs _ (by omega) _ _ (by omega)]
      simp only [hj, decide_true, Bool.true_and]
      by_cases on : W 8 j = 1
      · refine dn on ?_
        by_cases b : stb W i j = true
        · exact dn b (go 1 (by unfold mA; simp [b, on]))
        · exact dm b (go 0 (by unfold mA; simp [b]))
      · exact dm on (go 0 (by unfold mA; simp [on]))
theorem pc_hangs {ids : List Nat} {σ ρ : St} (h : Rel ids σ ρ) : wX11_hangs ids σ (fun r σ1 => wX12_hangs ρ (fun r2 ρ1 => r = r2 ∧ Rel ids σ1 ρ1)) := by
  obtain ⟨-, W, h⟩ := h
  exact sX_hangs h.iv h.mx (fun τ he => sR_hangs h.iv h.mr (fun υ e2 => ⟨rfl, (h.eq he e2).rel⟩))
