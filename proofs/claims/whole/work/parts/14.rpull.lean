/-! PURE: what the reference says of turns, loads, pulls -/
theorem rq {W : Vw} (hv : Iv W) (s : Nat) : rA W s / rB W s = (T W s).1 / (T W s).2.1 := by
  have h := Nat.mul_div_mul_left (rA W s) (rB W s) (gT_p hv s)
  rw [rA_e, rB_e] at h
  exact h.symm
theorem red_le {W : Vw} (hv : Iv W) (s a : Nat) : a * rB W s ≤ rA W s ↔ a * (T W s).2.1 ≤ (T W s).1 := by
  have e : a * (T W s).2.1 = gT W s * (a * rB W s) := by rw [← rB_e W s, Nat.mul_left_comm]
  rw [e, ← rA_e W s]
  exact (Nat.mul_le_mul_left_iff (gT_p hv s)).symm
theorem red_ge {W : Vw} (hv : Iv W) (s a : Nat) : rA W s ≤ a * rB W s ↔ (T W s).1 ≤ a * (T W s).2.1 := by
  have e : a * (T W s).2.1 = gT W s * (a * rB W s) := by rw [← rB_e W s, Nat.mul_left_comm]
  rw [e, ← rA_e W s]
  exact (Nat.mul_le_mul_left_iff (gT_p hv s)).symm
theorem sR_cutTurns {W : Vw} {ρ : St} (hv : Iv W) (hS : SR W ρ) {s : Nat} (hs : s < 8) {post : Int32 → St → Prop} (h : post (nI (cu W s)) ρ) : wX12_cutTurns (nI s) ρ post := by
  obtain ⟨e1, e2, -⟩ := hS.2 s hs
  have b1 := rA_b hv s
  have b2 := rB_b hv s
  have bq : rA W s / rB W s < 2 ^ 63 := Nat.lt_of_le_of_lt (Nat.div_le_self _ _) b1
  have e1' : gJ ρ 20 s = lN (rA W s) := e1
  have e2' : gJ ρ 21 s = lN (rB W s) := e2
  have e3 : (1000000 : Int64) = lN 1000000 := rfl
  refine ⟨vin (by omega) (by omega), ?_, ?_⟩
  · rw [nI_clamp (by omega), e2']
    exact lN_n0 b2 (rB_p hv s)
  · rw [nI_clamp (by omega), e1', e2', lN_div b1 b2, lg_cmp_le, e3, lN_leI bq (by decide)]
    by_cases q : rA W s / rB W s ≤ 1000000
    · refine dt q ?_
      show post (lN (rA W s / rB W s)).toInt32 ρ
      have e : cu W s = rA W s / rB W s := by unfold cu; rw [← rq hv]; split <;> omega
      rw [lN_i, ← e]
      exact h
    · refine df q ?_
      show post (lN 1000000).toInt32 ρ
      have e : cu W s = 1000000 := by unfold cu; rw [← rq hv, if_neg (by omega)]
      rw [lN_i, ← e]
      exact h
theorem sR_runsWell {W : Vw} {ρ : St} (hv : Iv W) (hS : SR W ρ) {m : Nat} (hm : m < W 0 3) {post : Int32 → St → Prop} (h : post (bI (mW W m)) ρ) : wX12_runsWell (nI m) ρ post := by
  have hc := hv.c
  obtain ⟨m1, m2, m3, m4, m5, m6⟩ := hS.1.m hm
  have hb := hv.m hm
  obtain ⟨e1, e2, -⟩ := hS.2 (W 3 m) (by omega)
  have e1' : gJ ρ 20 (W 3 m) = lN (rA W (W 3 m)) := e1
  have e2' : gJ ρ 21 (W 3 m) = lN (rB W (W 3 m)) := e2
  have b1 := rA_b hv (W 3 m)
  have b3 := Nat.le_trans (rB_l W (W 3 m)) (T_bd hv (W 3 m)).2.2.1
  have l1 : W 5 m * rB W (W 3 m) < 2 ^ 63 := Nat.lt_of_le_of_lt (Nat.mul_le_mul hb.2.2.1 b3) (by decide)
  have l2 : W 6 m * rB W (W 3 m) < 2 ^ 63 := Nat.lt_of_le_of_lt (Nat.mul_le_mul hb.2.2.2.1 b3) (by decide)
  refine ⟨vin (by omega) (by omega), ?_⟩
  rintro v rfl
  rw [nI_clamp (by omega), m1, m2, m3, m6, one_or hb.2.2.2.2.2]
  have yes : mW W m = true → wX12_runsWell_64 post ρ := by
    intro b
    rw [b] at h
    exact ⟨isB_1, h⟩
  have no : mW W m = false → wX12_runsWell_68 post ρ := by
    intro b
    rw [b] at h
    exact ⟨isB_0, h⟩
  have r1 := red_le hv (W 3 m) (W 5 m)
  have r2 := red_ge hv (W 3 m) (W 6 m)
  by_cases on : W 8 m = 1
  · refine df (by simp [on]) ⟨vin (by omega) (by omega), ?_⟩
    rw [nI_clamp (by omega), e1', e2', nI_l (by omega), nI_l (by omega), lN_mul, lN_mul, lg_cmp_lt, lg_cmp_gt, lN_ltI b1 l1, lN_ltI l2 b1]
    by_cases g1 : rA W (W 3 m) < W 5 m * rB W (W 3 m)
    · refine dt g1 (no ?_)
      have : ¬ W 5 m * (T W (W 3 m)).2.1 ≤ (T W (W 3 m)).1 := fun z => absurd (r1.mpr z) (by omega)
      unfold mW
      simp [on, this]
    · refine df g1 ?_
      have q1 := r1.mp (by omega)
      by_cases g2 : W 6 m * rB W (W 3 m) < rA W (W 3 m)
      · refine dt g2 (no ?_)
        have : ¬ (T W (W 3 m)).1 ≤ W 6 m * (T W (W 3 m)).2.1 := fun z => absurd (r2.mpr z) (by omega)
        unfold mW
        simp [on, this]
      · refine df g2 (yes ?_)
        have q2 := r2.mp (by omega)
        unfold mW
        simp [on, q1, q2]
  · refine dt on (yes ?_)
    unfold mW
    simp [on]
/-- what a machine loads -/
def lm (W : Vw) (m : Nat) : Nat := if W 8 m = 1 then ld W m else 0
theorem sR_loaded {W : Vw} {ρ : St} (hv : Iv W) (hS : SR W ρ) {m : Nat} (hm : m < W 0 3) {post : Int32 → St → Prop} (h : post (nI (lm W m)) ρ) : wX12_loaded (nI m) ρ post := by
  have hc := hv.c
  obtain ⟨m1, m2, m3, ⟨m4, m4'⟩, m5, m6⟩ := hS.1.m hm
  have hb := hv.m hm
  have q := cu_le W (W 3 m)
  refine ⟨vin (by omega) (by omega), ?_⟩
  rw [nI_clamp (by omega), m6, one_or hb.2.2.2.2.2]
  by_cases on : W 8 m = 1
  · have e : lm W m = ld W m := if_pos on
    have go : ∀ a b, a + b = nI (W 4 m) → wX12_loaded_35 post (nI m) a b ρ := by
      intro a b eab
      refine ⟨vin (by omega) (by omega), ?_⟩
      rw [nI_clamp (by omega), m1]
      refine sR_cutTurns hv hS (by omega) ?_
      show post _ ρ
      rw [eab, nI_l (by omega), nI_l (by omega), ld_l hv hm, ← e]
      exact h
    refine dm (by simp [on]) ?_
    by_cases c : nI m = gI ρ 0 34
    · exact dn c (go _ _ (m4' c))
    · refine dm c (go _ _ ?_)
      rw [m4 c]
      exact Int32.add_zero _
  · have e : lm W m = 0 := if_neg on
    refine dn on ?_
    rw [e, nI_0] at h
    exact h
theorem sR_allLoaded {W : Vw} {ρ : St} (hv : Iv W) (hS : SR W ρ) {post : Int32 → St → Prop} (h : post (nI (sm W (W 0 3) (mA W))) ρ) : wX12_allLoaded ρ post := by
  have hc := hv.c
  refine lpc2 (wX12_allLoaded_4 post) (W 0 3) (by omega) (fun i v τ => τ = ρ ∧ v = nI (sm W i (mA W))) ?_ ?_ 0 ρ ⟨rfl, rfl⟩
  · rintro n v τ ⟨rfl, rfl⟩
    rw [wX12_allLoaded_4_s]
    exact dt (by rw [hS.1.ms]; exact nI_le (Nat.le_refl _) (by omega)) h
  · rintro n i v τ hi ⟨rfl, rfl⟩ k
    rw [wX12_allLoaded_4_s]
    refine df (by rw [hS.1.ms]; exact nI_ge hi (by omega)) (sR_loaded hv hS hi ?_)
    rintro v4 rfl v5 rfl
    rw [nI_1, nI_add]
    refine k _ _ ⟨rfl, ?_⟩
    congr 1
    show _ = sm W i (mA W) + (if mA W i then ld W i else 0)
    unfold lm mA
    by_cases on : W 8 i = 1
    · simp [on]
    · simp [on]
/-- the shafts that hang on one -/
theorem sR_from {W : Vw} {ρ : St} (hv : Iv W) (hR : MR W ρ) {s : Nat} (hs : s < W 0 0) {post : Int32 → St → Prop} (h : post (bs 8 (RC W s)) ρ) : wX12_from (nI s) ρ post := by
  have hc := hv.c
  rintro v0 rfl
  have b1 : ∀ t, t < 32 → bt ((1 : Int32) <<< (nI s &&& 31)) t = decide (t = s) := fun t ht => bt_one s (by omega) t ht
  refine lpq1 (A1 := Int32 × Int32) (fun n p τ => wX12_from_6 post n p.1 p.2 τ) (fun m p τ => τ = ρ ∧ ((∀ t, 8 ≤ t → t < 32 → bt p.1 t = false) ∧ bt p.1 s = true ∧ ∀ t, t < 8 → bt p.1 t = true → RC W s t = true) ∧ ((p.1 = p.2 ∧ (∀ k, k < W 0 4 → W 14 k = 1 → bt p.1 (W 11 k) = true → bt p.1 (W 12 k) = true) ∧ m = 2 * ct 8 (fun t => !bt p.1 t)) ∨ (¬ p.1 = p.2 ∧ m = 2 * ct 8 (fun t => !bt p.1 t) + 1))) ?_ (2 * ct 8 (fun t => !bt ((1 : Int32) <<< (nI s &&& 31)) t) + 1) (((1 : Int32) <<< (nI s &&& 31)), 0) ρ ⟨rfl, ⟨?_, ?_, ?_⟩, Or.inr ⟨?_, rfl⟩⟩
  · rintro n m ⟨v, l⟩ τ ⟨rfl, hG, hm⟩ kk
    show wX12_from_6 post (n + 1) v l τ
    rw [wX12_from_6_s]
    simp only at hG hm
    rcases hm with ⟨rfl, hcl, rfl⟩ | ⟨hne, rfl⟩
    · refine dt rfl ?_
      have key : ∀ r t, rk W t < r → t < 8 → RC W s t = true → bt v t = true := by
        intro r
        induction r with
        | zero => intro t h; exact absurd h (Nat.not_lt_zero _)
        | succ r ih =>
          intro t hr ht hR1
          cases hd : dv W (W 0 4) t with
          | none =>
            rw [RC_none hd] at hR1
            rw [of_decide_eq_true hR1]
            exact hG.2.1
          | some k =>
            have hk := dv_some hd
            have hb := hv.b hk.1
            have hr1 := rk_lt hv hk.1
            rw [hk.2.1] at hr1
            rw [RC_some hv hd, Bool.or_eq_true] at hR1
            rcases hR1 with z | z
            · rw [of_decide_eq_true z]
              exact hG.2.1
            · have := hcl k hk.1 hk.2.2 (ih (W 11 k) (by omega) (by omega) z)
              rw [hk.2.1] at this
              exact this
      have e : v = bs 8 (RC W s) := bs_eq (by omega) (fun t ht => by
        by_cases g : t < 8
        · have h7 := rk_7 hv t
          have k1 := key 8 t (by omega) g
          have k2 := hG.2.2 t g
          cases hb : bt v t
          · cases hr : RC W s t
            · simp
            · rw [k1 hr] at hb
              exact absurd hb (by decide)
          · rw [k2 hb]
            simp [g]
        · rw [hG.1 t (by omega) ht]
          simp [g])
      rw [e]
      exact h
    · refine df hne ?_
      refine lpc2 (wX12_from_16 (wX12_from_6 post n) post v) (W 0 4) (by omega) (fun i w υ => υ = τ ∧ ((∀ t, 8 ≤ t → t < 32 → bt w t = false) ∧ bt w s = true ∧ ∀ t, t < 8 → bt w t = true → RC W s t = true) ∧ ((w = v ∧ ∀ k, k < i → W 14 k = 1 → bt w (W 11 k) = true → bt w (W 12 k) = true) ∨ ct 8 (fun t => !bt w t) < ct 8 (fun t => !bt v t))) ?_ ?_ v τ ⟨rfl, hG, Or.inl ⟨rfl, fun k hk => absurd hk (Nat.not_lt_zero _)⟩⟩
      · rintro n1 w υ ⟨rfl, hw, hm⟩
        rw [wX12_from_16_s]
        refine dt (by rw [hR.bs]; exact nI_le (Nat.le_refl _) (by omega)) ?_
        rcases hm with ⟨rfl, hq⟩ | hz
        · exact kk (2 * ct 8 (fun t => !bt w t)) (w, w) υ ⟨rfl, hw, Or.inl ⟨rfl, hq, rfl⟩⟩ (by omega)
        · refine kk (2 * ct 8 (fun t => !bt w t) + 1) (w, v) υ ⟨rfl, hw, Or.inr ⟨?_, rfl⟩⟩ (by omega)
          intro e
          have e' : w = v := e
          rw [e'] at hz
          exact absurd hz (Nat.lt_irrefl _)
      · rintro n1 i w υ hi ⟨rfl, hw, hm⟩ kk2
        rw [wX12_from_16_s]
        have hb := hv.b hi
        obtain ⟨r1, r2, r3, r4, r5, r6, r7⟩ := hR.b hi
        have go : ∀ s1, w ||| s1 = w → (W 14 i = 1 → bt w (W 11 i) = true → bt w (W 12 i) = true) → wX12_from_65 (wX12_from_6 post n) (wX12_from_16 (wX12_from_6 post n) post v n1) post v (nI i) w s1 υ := by
          rintro s1 es hs v1 rfl v2 rfl
          rw [nI_1, es]
          refine kk2 _ _ ⟨rfl, hw, ?_⟩
          rcases hm with ⟨e, hq⟩ | hz
          · refine Or.inl ⟨e, fun k hk => ?_⟩
            rcases Nat.lt_or_ge k i with g | g
            · exact hq k g
            · have : k = i := by omega
              subst this
              exact hs
          · exact Or.inr hz
        refine df (by rw [hR.bs]; exact nI_ge hi (by omega)) ⟨vin (by omega) (by omega), ?_⟩
        rw [nI_clamp (by omega), r5, r2, r3, bt_t w (i := W 11 i) (by omega)]
        have e1 : (1 : Int32) = nI 1 := rfl
        have o0 : w ||| 0 = w := bt_ext (fun t _ => by rw [bt_or, bt_0, Bool.or_false])
        by_cases on : W 14 i = 1
        · refine dn (by rw [on]; rfl) ?_
          by_cases b : bt w (W 11 i) = true
          · refine dn b ?_
            have bo : ∀ t, t < 32 → bt (w ||| ((1 : Int32) <<< (nI (W 12 i) &&& 31))) t = (bt w t || decide (t = W 12 i)) := fun t ht => by rw [bt_or, bt_one _ (by omega) t ht]
            by_cases b2 : bt w (W 12 i) = true
            · refine go _ ?_ (fun _ _ => b2)
              refine bt_ext (fun t ht => ?_)
              rw [bo t ht]
              by_cases e : t = W 12 i
              · rw [e, b2]; rfl
              · simp [e]
            · rintro v1 rfl v2 rfl
              rw [nI_1]
              have hRc := RC_some hv (s := s) (dv_is hv hi on)
              refine kk2 _ _ ⟨rfl, ⟨?_, ?_, ?_⟩, Or.inr ?_⟩
              · intro t g1 g2
                rw [bo t g2, hw.1 t g1 g2]
                have : ¬ t = W 12 i := by omega
                simp [this]
              · rw [bo s (by omega), hw.2.1]
                rfl
              · intro t g1 g2
                rw [bo t (by omega), Bool.or_eq_true] at g2
                rcases g2 with z | z
                · exact hw.2.2 t g1 z
                · rw [of_decide_eq_true z, hRc, hw.2.2 _ (by omega) b]
                  exact Bool.or_true _
              · have e : ct 8 (fun t => !bt w t) = ct 8 (fun t => !bt (w ||| ((1 : Int32) <<< (nI (W 12 i) &&& 31))) t) + 1 := by
                  have e' : ct 8 (fun t => !bt (w ||| ((1 : Int32) <<< (nI (W 12 i) &&& 31))) t) = ct 8 (fun t => !(bt w t || decide (t = W 12 i))) := ct_cg (fun t ht => by rw [bo t (by omega)])
                  rw [e']
                  refine ct_dr (j := W 12 i) (by omega) (fun j hj => ?_) (by simp [nf b2]) (by simp)
                  simp [hj]
                have : ct 8 (fun t => !bt w t) ≤ ct 8 (fun t => !bt v t) := by
                  rcases hm with ⟨rfl, -⟩ | hz
                  · exact Nat.le_refl _
                  · omega
                omega
          · exact dm b (go _ o0 (fun _ z => absurd z b))
        · refine dm (by rw [e1, nI_eq (by omega) (by omega)]; exact on) (go _ o0 (fun z => absurd z on))
  · intro t g1 g2
    show bt ((1 : Int32) <<< (nI s &&& 31)) t = false
    rw [b1 t g2]
    have : ¬ t = s := by omega
    simp [this]
  · show bt ((1 : Int32) <<< (nI s &&& 31)) s = true
    rw [b1 s (by omega)]
    simp
  · intro t g1 g2
    have g3 : bt ((1 : Int32) <<< (nI s &&& 31)) t = true := g2
    rw [b1 t (by omega)] at g3
    rw [of_decide_eq_true g3]
    exact RC_self W s
  · intro e
    have e' : ((1 : Int32) <<< (nI s &&& 31)) = 0 := e
    have := b1 s (by omega)
    rw [e', bt_0] at this
    simp at this
theorem mF_l {W : Vw} (s m : Nat) : (if RC W s (W 3 m) = true then lm W m else 0) = (if mF W s m = true then ld W m else 0) := by
  unfold lm mF
  by_cases r : RC W s (W 3 m) = true
  · by_cases on : W 8 m = 1
    · simp [r, on]
    · simp [r, on]
  · simp [r]
theorem sR_pullOf {W : Vw} {ρ : St} (hv : Iv W) (hS : SR W ρ) {k : Nat} (hk : k < W 0 4) {post : Int32 → St → Prop} (h : post (nI (pl W k)) ρ) : wX12_pullOf (nI k) ρ post := by
  have hc := hv.c
  obtain ⟨r1, r2, r3, r4, r5, r6, r7⟩ := hS.1.b hk
  have hb := hv.b hk
  refine ⟨vin (by omega) (by omega), ?_⟩
  rw [nI_clamp (by omega), r5, r3, one_or hb.2.2.2.2.2.2.1]
  by_cases on : W 14 k = 1
  · refine dm (by simp [on]) (sR_from hv hS.1 hb.2.2.1 ?_)
    refine lpc2 (wX12_pullOf_27 post (bs 8 (RC W (W 12 k)))) (W 0 3) (by omega) (fun i v τ => τ = ρ ∧ v = nI (sm W i (mF W (W 12 k)))) ?_ ?_ 0 ρ ⟨rfl, rfl⟩
    · rintro n v τ ⟨rfl, rfl⟩
      rw [wX12_pullOf_27_s]
      refine dt (by rw [hS.1.ms]; exact nI_le (Nat.le_refl _) (by omega)) ?_
      have e : pl W k = sm W (W 0 3) (mF W (W 12 k)) := if_pos on
      rw [← e]
      exact h
    · rintro n i v τ hi ⟨rfl, rfl⟩ kk
      rw [wX12_pullOf_27_s]
      obtain ⟨m1, m2, m3, m4, m5, m6⟩ := hS.1.m hi
      have hm := hv.m hi
      have go : ∀ x : Nat, x = (if RC W (W 12 k) (W 3 i) = true then lm W i else 0) → wX12_pullOf_62 (wX12_pullOf_27 post (bs 8 (RC W (W 12 k))) n) post (bs 8 (RC W (W 12 k))) (nI i) (nI (sm W i (mF W (W 12 k)))) (nI x) τ := by
        rintro x ex v1 rfl v2 rfl
        rw [nI_1, nI_add]
        refine kk _ _ ⟨rfl, ?_⟩
        rw [ex, mF_l]
        rfl
      refine df (by rw [hS.1.ms]; exact nI_ge hi (by omega)) ⟨vin (by omega) (by omega), ?_⟩
      rw [nI_clamp (by omega), m1, bt_t _ (i := W 3 i) (by omega), bt_bs 8 (by omega) _ _ (by omega)]
      have g8 : W 3 i < 8 := by omega
      simp only [g8, decide_true, Bool.true_and]
      by_cases r : RC W (W 12 k) (W 3 i) = true
      · exact dn r (sR_loaded hv hS hi (go _ (by rw [if_pos r])))
      · exact dm r (go 0 (by rw [if_neg r]))
  · refine dn on ?_
    have e : pl W k = 0 := if_neg on
    rw [e, nI_0] at h
    exact h
theorem bw_K : ∀ d : Fin 100, ((10 : Int32) ≤ (50 : Int32) - nI d.val → (50 : Int32) - nI d.val = nI (if d.val < 40 then 50 - d.val else 10)) ∧ (¬ (10 : Int32) ≤ (50 : Int32) - nI d.val → (10 : Int32) = nI (if d.val < 40 then 50 - d.val else 10)) := by decide +kernel
theorem df2_d {a b : Nat} (ha : a < 100) (hb : b < 100) : (0 ≤ nI a - nI b → nI a - nI b = nI (df2 a b)) ∧ (¬ 0 ≤ nI a - nI b → -(nI a - nI b) = nI (df2 a b)) := by
  have e := df2_is ha hb
  constructor
  · intro h
    rw [if_pos h] at e
    exact e
  · intro h
    rw [if_neg h, Int32.zero_sub] at e
    exact e
theorem sR_wrapOf {W : Vw} {ρ : St} (hv : Iv W) (hR : MR W ρ) {k : Nat} (hk : k < W 0 4) {post : Int32 → St → Prop} (h : post (nI (wr W k)) ρ) : wX12_wrapOf (nI k) ρ post := by
  have hc := hv.c
  obtain ⟨r1, r2, r3, r4, r5, r6, r7⟩ := hR.b hk
  have hb := hv.b hk
  have hw := bw_r (W 15 k) (W 16 k)
  have e20 : (20 : Int32) = nI 20 := rfl
  have e15 : (15 : Int32) = nI 15 := rfl
  have e10 : (10 : Int32) = nI 10 := rfl
  have e2 : (2 : Int32) = nI 2 := rfl
  have hd := df2_le (a := W 16 k) (b := W 15 k) (by omega) (by omega)
  have m38 : wX12_wrapOf_38 post (nI k) (nI (bw (W 15 k) (W 16 k))) ρ := by
    refine ⟨vin (by omega) (by omega), ?_⟩
    rintro v rfl
    rw [nI_clamp (by omega), r1]
    have ev : ∀ j, j < 6 → (nI (W 10 k) = nI j ↔ W 10 k = j) := fun j hj => nI_eq (by omega) (by omega)
    have f1 : ((nI (W 10 k) = (1 : Int32)) ↔ W 10 k = 1) := ev 1 (by omega)
    have f2 : ((nI (W 10 k) = (2 : Int32)) ↔ W 10 k = 2) := ev 2 (by omega)
    have f3 : ((nI (W 10 k) = (3 : Int32)) ↔ W 10 k = 3) := ev 3 (by omega)
    have f4 : ((nI (W 10 k) = (4 : Int32)) ↔ W 10 k = 4) := ev 4 (by omega)
    have f5 : ((nI (W 10 k) = (5 : Int32)) ↔ W 10 k = 5) := ev 5 (by omega)
    rw [f1, f2, f3, f4, f5]
    refine ⟨fun c => ?_, fun c => ?_, fun c => ?_, fun c => ?_, fun c => ?_, fun c => ?_⟩
    · have e : wr W k = bw (W 15 k) (W 16 k) + 20 := by unfold wr; rw [if_pos (by omega)]
      rw [e20, nI_add, ← e]
      exact h
    · have e : wr W k = bw (W 15 k) (W 16 k) + 15 := by unfold wr; rw [if_neg (by omega), if_pos (by omega)]
      rw [e15, nI_add, ← e]
      exact h
    · have e : wr W k = bw (W 15 k) (W 16 k) := by unfold wr; rw [if_neg (by omega), if_neg (by omega), if_neg (by omega), if_neg (by omega)]
      show post _ ρ
      rw [← e]
      exact h
    · have e : wr W k = bw (W 15 k) (W 16 k) + 10 := by unfold wr; rw [if_neg (by omega), if_neg (by omega), if_pos (by omega)]
      rw [e10, nI_add, ← e]
      exact h
    · have e : wr W k = (bw (W 15 k) (W 16 k) + 20) / 2 := by unfold wr; rw [if_neg (by omega), if_neg (by omega), if_neg (by omega), if_pos (by omega)]
      rw [e20, e2, nI_add, nI_div (by omega) (by omega), ← e]
      exact h
    · have e : wr W k = bw (W 15 k) (W 16 k) := by unfold wr; rw [if_neg (by omega), if_neg (by omega), if_neg (by omega), if_neg (by omega)]
      show post _ ρ
      rw [← e]
      exact h
  have m24 : wX12_wrapOf_24 post (nI k) 50 (nI (df2 (W 16 k) (W 15 k))) ρ := by
    rintro v3 rfl
    have q := bw_K ⟨df2 (W 16 k) (W 15 k), hd⟩
    have eb : nI (if df2 (W 16 k) (W 15 k) < 40 then 50 - df2 (W 16 k) (W 15 k) else 10) = nI (bw (W 15 k) (W 16 k)) := rfl
    refine ⟨fun c => ?_, fun c => ?_⟩
    · have := q.1 c
      simp only at this
      rw [this]
      exact m38
    · have := q.2 c
      simp only at this
      rw [this]
      exact m38
  refine sR_sizeB hv hR hk (sR_sizeA hv hR hk ?_)
  rintro v5 rfl
  have dd := df2_d (a := W 16 k) (b := W 15 k) (by omega) (by omega)
  refine ⟨fun c => ?_, fun c => ?_⟩
  · rw [dd.1 c]; exact m24
  · rw [dd.2 c]; exact m24
theorem sR_longOf {W : Vw} {ρ : St} (hv : Iv W) (hR : MR W ρ) {k : Nat} (hk : k < W 0 4) {post : Int32 → St → Prop} (h : post (nI (lgt W k)) ρ) : wX12_longOf (nI k) ρ post := by
  have hc := hv.c
  obtain ⟨r1, r2, r3, r4, r5, r6, r7⟩ := hR.b hk
  have hb := hv.b hk
  have s1 := hv.s hb.2.1
  have s2 := hv.s hb.2.2.1
  have e2 : (2 : Int32) = nI 2 := rfl
  have e3 : (3 : Int32) = nI 3 := rfl
  have e10 : (10 : Int32) = nI 10 := rfl
  have m47 : wX12_longOf_47 post (nI k) (nI (W 15 k + W 16 k)) 2 (nI (apt W k)) ρ := by
    rintro v1 rfl
    refine ⟨vin (by omega) (by omega), ?_⟩
    rw [nI_clamp (by omega), r1, e2, e3, nI_mul, nI_mul, nI_div (by omega) (by omega), nI_add]
    have el : 2 * apt W k + 3 * (W 15 k + W 16 k) / 2 = lg0 W k := rfl
    rw [el]
    have ev : ∀ j, j < 6 → (nI (W 10 k) = nI j ↔ W 10 k = j) := fun j hj => nI_eq (by omega) (by omega)
    have f1 : ((nI (W 10 k) = (1 : Int32)) ↔ W 10 k = 1) := ev 1 (by omega)
    have f2 : ((nI (W 10 k) = nI 2) ↔ W 10 k = 2) := ev 2 (by omega)
    have f5 : ((nI (W 10 k) = (5 : Int32)) ↔ W 10 k = 5) := ev 5 (by omega)
    rw [f1, f2, f5]
    by_cases c1 : W 10 k = 1
    · refine dt c1 ?_
      show post (nI (lg0 W k) + nI (W 15 k + W 16 k)) ρ
      have e : lgt W k = lg0 W k + (W 15 k + W 16 k) := by unfold lgt; rw [if_pos (by omega)]
      rw [nI_add, ← e]
      exact h
    · refine df c1 ?_
      by_cases c5 : W 10 k = 5
      · refine dn c5 ?_
        show post (nI (lg0 W k) + nI (W 15 k + W 16 k)) ρ
        have e : lgt W k = lg0 W k + (W 15 k + W 16 k) := by unfold lgt; rw [if_pos (by omega)]
        rw [nI_add, ← e]
        exact h
      · refine dm c5 ?_
        by_cases c2 : W 10 k = 2
        · refine dn c2 ?_
          show post (nI (lg0 W k) + 10) ρ
          have e : lgt W k = lg0 W k + 10 := by unfold lgt; rw [if_neg (by omega), if_pos (by omega)]
          rw [e10, nI_add, ← e]
          exact h
        · refine dm c2 ?_
          show post (nI (lg0 W k)) ρ
          have e : lgt W k = lg0 W k := by unfold lgt; rw [if_neg (by omega), if_neg (by omega)]
          rw [← e]
          exact h
  refine ⟨vin (by omega) (by omega), by rw [nI_clamp (by omega), r2]; exact vin (by omega) (by omega), by rw [nI_clamp (by omega), r3]; exact vin (by omega) (by omega), ?_⟩
  rw [nI_clamp (by omega), r2, r3, nI_clamp (by omega), nI_clamp (by omega), (hR.s hb.2.1).1, (hR.s hb.2.2.1).1]
  rintro v5 rfl
  refine sR_sizeA hv hR hk (sR_sizeB hv hR hk ?_)
  rintro v10 rfl
  rw [nI_add]
  have dd := df2_d (a := W 1 (W 11 k)) (b := W 1 (W 12 k)) (by omega) (by omega)
  refine ⟨fun c => ?_, fun c => ?_⟩
  · rw [dd.1 c]; exact m47
  · rw [dd.2 c]; exact m47
theorem sR_slips {W : Vw} {ρ : St} (hv : Iv W) (hS : SR W ρ) {k : Nat} (hk : k < W 0 4) {post : Int32 → St → Prop} (h : post (bI (slp W k)) ρ) : wX12_slips (nI k) ρ post := by
  have hc := hv.c
  obtain ⟨r1, r2, r3, r4, r5, r6, r7⟩ := hS.1.b hk
  have hb := hv.b hk
  have hw := wr_r W k
  refine sR_pullOf hv hS hk ⟨vin (by omega) (by omega), sR_wrapOf hv hS.1 hk ?_⟩
  have e50 : (50 : Int32) = nI 50 := rfl
  have hm : W 13 k * wr W k ≤ 999 * 70 := Nat.mul_le_mul hb.2.2.2.2.2.1 hw
  rw [nI_clamp (by omega), r4, e50, nI_mul, nI_div (by omega) (by omega)]
  by_cases g : nI (pl W k) ≤ nI (W 13 k * wr W k / 50)
  · refine dt g ⟨isB_0, ?_⟩
    have e : slp W k = false := by unfold slp; simp [g]
    rw [e] at h
    exact h
  · refine df g ⟨isB_1, ?_⟩
    have e : slp W k = true := by unfold slp; simp [g]
    rw [e] at h
    exact h
theorem sR_pullsAt {W : Vw} {ρ : St} (hv : Iv W) (hS : SR W ρ) {s : Nat} (hs : s < W 0 0) {post : Int32 → St → Prop} (h : post (nI (pu W s (W 0 4))) ρ) : wX12_pullsAt (nI s) ρ post := by
  have hc := hv.c
  refine lpc2 (wX12_pullsAt_4 post (nI s)) (W 0 4) (by omega) (fun i v τ => τ = ρ ∧ v = nI (pu W s i)) ?_ ?_ 0 ρ ⟨rfl, rfl⟩
  · rintro n v τ ⟨rfl, rfl⟩
    rw [wX12_pullsAt_4_s]
    exact dt (by rw [hS.1.bs]; exact nI_le (Nat.le_refl _) (by omega)) h
  · rintro n i v τ hi ⟨rfl, rfl⟩ kk
    rw [wX12_pullsAt_4_s]
    have hb := hv.b hi
    obtain ⟨r1, r2, r3, r4, r5, r6, r7⟩ := hS.1.b hi
    have go : ∀ x, x = (if W 11 i = s ∨ W 12 i = s then pl W i else 0) → wX12_pullsAt_42 (wX12_pullsAt_4 post (nI s) n) post (nI s) (nI i) (nI (pu W s i)) (nI x) τ := by
      rintro x ex v1 rfl v2 rfl
      rw [nI_1, nI_add]
      refine kk _ _ ⟨rfl, ?_⟩
      rw [ex]
      rfl
    have gp : (W 11 i = s ∨ W 12 i = s) → wX12_pullsAt_33 (wX12_pullsAt_4 post (nI s) n) post (nI s) (nI i) (nI (pu W s i)) τ := by
      intro c
      exact sR_pullOf hv hS hi (go _ (by rw [if_pos c]))
    refine df (by rw [hS.1.bs]; exact nI_ge hi (by omega)) ⟨vin (by omega) (by omega), ?_⟩
    rw [nI_clamp (by omega), r2, r3, nI_eq (by omega) (by omega), nI_eq (by omega) (by omega)]
    by_cases c1 : W 11 i = s
    · exact dt c1 (gp (Or.inl c1))
    · refine df c1 ?_
      by_cases c2 : W 12 i = s
      · exact dn c2 (gp (Or.inr c2))
      · exact dm c2 (go 0 (by rw [if_neg (by omega)]))
theorem sR_wells22 {W : Vw} {ρ : St} (hv : Iv W) (hR : MR W ρ) {post : Int32 → St → Prop} (h : ∀ τ, Eq22 ρ τ → SR W τ → post (nI (ct (W 0 3) (mW W))) τ) : wX12_wells ρ post := by
  have hc := hv.c
  refine sR_lays22 hv hR (fun τ he hS => ?_)
  refine lpc2 (wX12_wells_8 post) (W 0 3) (by omega) (fun i v υ => υ = τ ∧ v = nI (ct i (mW W))) ?_ ?_ 0 τ ⟨rfl, rfl⟩
  · rintro n v υ ⟨rfl, rfl⟩
    rw [wX12_wells_8_s]
    exact dt (by rw [hS.1.ms]; exact nI_le (Nat.le_refl _) (by omega)) (h υ he hS)
  · rintro n i v υ hi ⟨rfl, rfl⟩ kk
    rw [wX12_wells_8_s]
    have go : ∀ x, x = (if mW W i = true then 1 else 0) → wX12_wells_30 (wX12_wells_8 post n) post (nI i) (nI (ct i (mW W))) (nI x) υ := by
      rintro x ex v1 rfl v2 rfl
      rw [nI_1, nI_add]
      refine kk _ _ ⟨rfl, ?_⟩
      rw [ex, ct_s]
    refine df (by rw [hS.1.ms]; exact nI_ge hi (by omega)) (sR_runsWell hv hS hi (bI_d (fun b => ?_) (fun b => ?_)))
    · exact go 0 (by rw [b]; rfl)
    · exact go 1 (by rw [b]; rfl)
theorem sR_wells {W : Vw} {ρ : St} (hv : Iv W) (hR : MR W ρ) {post : Int32 → St → Prop} (h : ∀ τ, EqR ρ τ → SR W τ → post (nI (ct (W 0 3) (mW W))) τ) : wX12_wells ρ post := sR_wells22 hv hR (fun τ e s => h τ e.x s)
theorem sR_ways {W : Vw} {ρ : St} (hv : Iv W) (hS : SR W ρ) {s : Nat} (hs : s < 8) : gI ρ 22 s = 0 ↔ (T W s).1 = 0 := by
  have e : gI ρ 22 s = iI (T W s).2.2 := (hS.2 s hs).2.2
  have b := (T_bd hv s).2.2.2
  rw [e, iI_z b.2, b.1]
theorem sR_turning {W : Vw} {ρ : St} (hv : Iv W) (hR : MR W ρ) {post : Int32 → St → Prop} (h : ∀ τ, EqR ρ τ → SR W τ → post (bs (W 0 3) (mT W)) τ) : wX12_turning ρ post := by
  have hc := hv.c
  refine sR_lays hv hR (fun τ he hS => ?_)
  refine lpc2 (wX12_turning_8 post) (W 0 3) (by omega) (fun i v υ => υ = τ ∧ v = bs i (mT W)) ?_ ?_ 0 τ ⟨rfl, rfl⟩
  · rintro n v υ ⟨rfl, rfl⟩
    rw [wX12_turning_8_s]
    exact dt (by rw [hS.1.ms]; exact nI_le (Nat.le_refl _) (by omega)) (h υ he hS)
  · rintro n i v υ hi ⟨rfl, rfl⟩ kk
    rw [wX12_turning_8_s]
    obtain ⟨m1, m2, m3, m4, m5, m6⟩ := hS.1.m hi
    have hm := hv.m hi
    have go : ∀ x, bs i (mT W) ||| x = bs (i + 1) (mT W) → wX12_turning_38 (wX12_turning_8 post n) post (nI i) (bs i (mT W)) x υ := by
      rintro x ex v1 rfl v2 rfl
      rw [nI_1, ex]
      exact kk _ _ ⟨rfl, rfl⟩
    refine df (by rw [hS.1.ms]; exact nI_ge hi (by omega)) ⟨vin (by omega) (by omega), ?_⟩
    rw [nI_clamp (by omega), m1, nI_clamp (by omega), sR_ways hv hS (by omega)]
    refine ⟨vin (by omega) (by omega), ?_⟩
    by_cases z : (T W (W 3 i)).1 = 0
    · refine dt z (go _ ?_)
      have e : ¬ mT W i = true := by unfold mT; simp [z]
      rw [← bs_f e]
      exact bt_ext (fun t _ => by rw [bt_or, bt_0, Bool.or_false])
    · refine df z (go _ (bs_t ?_))
      unfold mT
      simp
      omega
