/-! PURE: choose and lay -/
theorem sX_staying {W : Vw} {ids : List Nat} {τ : St} (hv : Iv W) (hd : Dv W) (hM : MX W ids τ) (hD : DX W τ) {post : Int32 → St → Prop} (h1 : stO W → ∀ x, (∀ d, d < 32 → bt x d = stn W (W 0 4) d) → post x τ) (h0 : ¬ stO W → post (-1) τ) : wX11_stayingDrums ids τ post := by
  have hc := hv.c
  have hdc := hd.1
  refine lpc2 (wX11_stayingDrums_4 ids post) (W 0 4) (by omega) (fun i v υ => υ = τ ∧ (∀ d, d < 32 → bt v d = stn W i d) ∧ ∀ j k, j < k → k < i → ¬ W 18 j = W 18 k ∧ (4 ≤ k → ¬ W 18 j = W 19 k) ∧ (4 ≤ j → ¬ W 19 j = W 18 k ∧ ¬ W 19 j = W 19 k)) ?_ ?_ 0 τ ⟨rfl, fun d _ => by rw [bt_0]; rfl, fun j k _ hk => absurd hk (Nat.not_lt_zero _)⟩
  · rintro n v υ ⟨rfl, hb, ho⟩
    rw [wX11_stayingDrums_4_s]
    exact dt (by rw [hM.bs]; exact nI_le (Nat.le_refl _) (by omega)) (h1 ho v hb)
  · rintro n i v υ hi ⟨rfl, hb, ho⟩ kk
    rw [wX11_stayingDrums_4_s]
    have hdi := hd.2.2.2.1 i hi
    obtain ⟨x1, x2⟩ := hD.2.2.1 i hi
    have e4 : (nI i < (4 : Int32)) ↔ i < 4 := nI_ltI (b := 4) (by omega) (by omega)
    have main : ∀ e, (∀ d, d < 32 → bt e d = (decide (d = W 18 i) || (decide (4 ≤ i) && decide (d = W 19 i)))) → wX11_stayingDrums_49 ids (wX11_stayingDrums_4 ids post n) post v (nI i) e υ := by
      intro e he
      have z : (v &&& e) = 0 ↔ ∀ d, d < 32 → ¬ (bt v d = true ∧ bt e d = true) := by
        constructor
        · intro z d hd2 hh
          have := bt_and v e d
          rw [z, bt_0, hh.1, hh.2] at this
          exact absurd this (by decide)
        · intro z
          refine bt_ext (fun d hd2 => ?_)
          rw [bt_and, bt_0]
          cases h1 : bt v d
          · rfl
          · cases h2 : bt e d
            · rfl
            · exact absurd ⟨h1, h2⟩ (z d hd2)
      have ee : ∀ d, d < 32 → (bt e d = true ↔ d = W 18 i ∨ (4 ≤ i ∧ d = W 19 i)) := fun d hd2 => by
        rw [he d hd2]
        simp
      have ev : ∀ d, d < 32 → (bt v d = true ↔ ∃ k, k < i ∧ (W 18 k = d ∨ (4 ≤ k ∧ W 19 k = d))) := fun d hd2 => by
        rw [hb d hd2, stn_t]
      refine ⟨fun c => ?_, fun c => h0 (fun hst => c (z.mpr (fun d hd2 ⟨q1, q2⟩ => ?_)))⟩
      · rintro v2 rfl v3 rfl
        rw [nI_1]
        have cz := z.mp c
        refine kk _ _ ⟨rfl, fun d hd2 => ?_, fun j k hjk hk => ?_⟩
        · rw [bt_or]
          have q : (bt v d || bt e d) = true ↔ stn W (i + 1) d = true := by
            rw [Bool.or_eq_true, ev d hd2, ee d hd2, stn_t]
            constructor
            · rintro (⟨k, g1, g2⟩ | g)
              · exact ⟨k, by omega, g2⟩
              · refine ⟨i, Nat.lt_succ_self i, ?_⟩
                rcases g with g | g
                · exact Or.inl g.symm
                · exact Or.inr ⟨g.1, g.2.symm⟩
            · rintro ⟨k, g1, g2⟩
              by_cases e : k = i
              · subst e
                right
                rcases g2 with g | g
                · exact Or.inl g.symm
                · exact Or.inr ⟨g.1, g.2.symm⟩
              · exact Or.inl ⟨k, by omega, g2⟩
          cases h1 : (bt v d || bt e d) <;> cases h2 : stn W (i + 1) d
          · rfl
          · rw [h1, h2] at q; exact absurd (q.mpr rfl) (by decide)
          · rw [h1, h2] at q; exact absurd (q.mp rfl) (by decide)
          · rfl
        · by_cases e2 : k = i
          · subst e2
            have hdj := hd.2.2.2.1 j (by omega)
            refine ⟨fun y => ?_, fun h4 y => ?_, fun h4 => ⟨fun y => ?_, fun y => ?_⟩⟩
            · exact cz (W 18 j) (by omega) ⟨(ev _ (by omega)).mpr ⟨j, hjk, Or.inl rfl⟩, (ee _ (by omega)).mpr (Or.inl y)⟩
            · exact cz (W 18 j) (by omega) ⟨(ev _ (by omega)).mpr ⟨j, hjk, Or.inl rfl⟩, (ee _ (by omega)).mpr (Or.inr ⟨h4, y⟩)⟩
            · exact cz (W 19 j) (by omega) ⟨(ev _ (by omega)).mpr ⟨j, hjk, Or.inr ⟨h4, rfl⟩⟩, (ee _ (by omega)).mpr (Or.inl y)⟩
            · exact cz (W 19 j) (by omega) ⟨(ev _ (by omega)).mpr ⟨j, hjk, Or.inr ⟨h4, rfl⟩⟩, (ee _ (by omega)).mpr (Or.inr ⟨by omega, y⟩)⟩
          · exact ho j k hjk (by omega)
      · obtain ⟨k, g1, g2⟩ := (ev d hd2).mp q1
        have g3 := (ee d hd2).mp q2
        have hk := hst k i g1 hi
        rcases g2 with g2 | ⟨g4, g2⟩
        · rcases g3 with g3 | ⟨g5, g3⟩
          · exact hk.1 (g2.trans g3)
          · exact hk.2.1 g5 (g2.trans g3)
        · rcases g3 with g3 | ⟨g5, g3⟩
          · exact (hk.2.2 g4).1 (g2.trans g3)
          · exact (hk.2.2 g4).2 (g2.trans g3)
    refine df (by rw [hM.bs]; exact nI_ge hi (by omega)) ⟨vin (by omega) (by omega), bO W i, by rw [nI_clamp (by omega)]; exact (hM.b hi).1, hM.okB hv hi, ?_⟩
    rw [x1, x2, e4]
    rintro v8 rfl
    by_cases c4 : i < 4
    · refine dt c4 (main _ (fun d hd2 => ?_))
      rw [bt_one _ (by omega) d hd2]
      have : ¬ 4 ≤ i := by omega
      simp [this]
    · refine df c4 ?_
      rintro v10 rfl
      refine main _ (fun d hd2 => ?_)
      rw [bt_or, bt_one _ (by omega) d hd2, bt_one _ (by omega) d hd2]
      have : 4 ≤ i := by omega
      simp [this]
/-- the best of all ways -/
def oW (W : Vw) : Option Nat := fo W 0 (W 0 5 ^ fbn W) none
theorem Gd_A {W : Vw} (hd : Dv W) {f : Nat → Nat} (hf : ∀ k, k < fbn W → f k < W 0 5) : ∀ k, k < W 0 4 → W 18 k < W 0 5 ∧ wa W (fbn W) f 19 k < W 0 5 := by
  intro k hk
  have := hd.2.2.2.1 k hk
  refine ⟨this.1, ?_⟩
  by_cases z : k < fbn W
  · rw [wa_19 z]
    exact hf k z
  · rw [wa_o (by omega)]
    exact this.2.1
theorem D_pos {W : Vw} (hd : Dv W) {k : Nat} (hk : k < W 0 4) : 0 < W 0 5 := by
  have := hd.2.2.2.1 k hk
  omega
theorem oW_bad {W : Vw} (hd : Dv W) (h : ¬ stO W) : oW W = none := by
  obtain ⟨n1, n2, n3⟩ := fbn_r W
  refine fo_bad (fun i _ => ?_) none
  cases hg : gd W (fbn W) (fw (W 0 5) (fbn W) (0 + i))
  · rfl
  · exact absurd ((Gd_x hd).mp ((gd_t (Gd_A hd (fun k hk => fw_lt (D_pos hd (k := k) (by omega)) _ _ _))).mp hg)).1 h
theorem sX_findChosen {W : Vw} {ids : List Nat} {σ : St} (hv : Iv W) (hd : Dv W) (hM : MX W ids σ) (hD : DX W σ) {post : Int32 → St → Prop} (h : ∀ τ, EqX σ τ → bX W (oW W) τ → post (bI (oW W).isSome) τ) : wX11_findChosen ids σ post := by
  have hc := hv.c
  have hdc := hd.1
  obtain ⟨n1, n2, n3⟩ := fbn_r W
  rintro σ1 rfl
  have e1 : EqX σ (uI σ 0 9 (-1)) := (EqX.rf σ).uI (by unfold scX; omega)
  have hM1 := hM.eq hv e1
  have hD1 : DX W (uI σ 0 9 (-1)) := hD.fr hv (fun _ _ _ => rfl) (fun c k hk => e1.2 c k (by unfold kD at hk; unfold scX; omega))
  refine sX_staying hv hd hM1 hD1 (fun hst x hx => ?_) (fun hst => ?_)
  · have xm : ¬ x = -1 := by
      intro z
      have := hx 31 (by omega)
      rw [z] at this
      have e : bt (-1) 31 = true := by decide
      rw [e] at this
      obtain ⟨k, hk, g⟩ := stn_t.mp this.symm
      have := hd.2.2.2.1 k hk
      omega
    refine dm xm ?_
    have t0 : tX W (uI σ 0 9 (-1)) 0 (fun _ => 0) none (uI σ 0 9 (-1)) := ⟨fun _ _ _ _ => rfl, fun _ _ => rfl, fun i hi => absurd hi (Nat.not_lt_zero _), gI_s⟩
    have key := sX_try hv hd hM1 hD1 hst (fbn W) 10 0 (fun _ => 0) none x (uI σ 0 9 (-1)) (fun σ1005 => ∃ N1006, wX11_findChosen_26 ids post N1006 (0 : Int32) σ1005) (by omega) (by omega) (fun i hi => absurd hi (Nat.not_lt_zero _)) (fun i hi => absurd hi (Nat.not_lt_zero _)) (fun b hb => by rw [hx b hb]; unfold usd; simp [nn]) t0 (fun υ hυ => ?_)
    · exact key
    · have eo : fo W (pv (W 0 5) (fun _ => 0) 0 * W 0 5 ^ fbn W) (W 0 5 ^ fbn W) none = oW W := by
        show fo W (0 * _) _ _ = _
        rw [Nat.zero_mul]
        rfl
      rw [eo] at hυ
      refine lpc1 (wX11_findChosen_26 ids post) (fbn W) (by omega) (fun i τ => (∀ c k, ¬ scX c k → ¬ (k = 7 ∧ ∃ i', i ≤ i' ∧ i' < fbn W ∧ c = bO W i') → gI τ c k = gI σ c k) ∧ (∀ c k, gR τ c k = gR σ c k) ∧ bX W (oW W) τ) ?_ ?_ υ ⟨fun c k g1 g2 => (hυ.1 c k g1 (fun ⟨z, i, hi, e⟩ => g2 ⟨z, i, Nat.zero_le _, hi, e⟩)).trans (e1.2 c k g1), fun c k => (hυ.2.1 c k), hυ.2.2.2⟩
      · rintro m τ ⟨t1, t2, t3⟩
        rw [wX11_findChosen_26_s]
        have et : EqX σ τ := ⟨t2, fun c k g => t1 c k g (fun ⟨_, i, hi, hi2, _⟩ => by omega)⟩
        refine sX_free hv (by rw [et.2 1 3 (by unfold scX; omega)]; exact hM.bs) (dt (nI_le (Nat.le_refl _) (by omega)) ?_)
        have hp := h τ et t3
        cases ho : oW W with
        | none =>
          rw [ho] at t3 hp
          exact dt t3 ⟨isB_0, hp⟩
        | some u =>
          rw [ho] at t3 hp
          refine df ?_ ⟨isB_1, hp⟩
          rw [t3.1]
          exact ne_m1 (by have := wl_le hv (fbn W) (fw (W 0 5) (fbn W) u); omega)
      · rintro m i τ hi ⟨t1, t2, t3⟩ kk
        rw [wX11_findChosen_26_s]
        have hib : i < W 0 4 := by omega
        have hr := bO_r hv hib
        have low : ∀ c k, c < 72 → ¬ scX c k → gI τ c k = gI σ c k := fun c k g1 g2 => t1 c k g2 (fun ⟨_, i', _, hi', e⟩ => by have := bO_r hv (k := i') (by omega); omega)
        have hdi := hd.2.2.2.1 i hib
        refine sX_free hv (by rw [low 1 3 (by omega) (by unfold scX; omega)]; exact hM.bs) (df (nI_ge hi (by omega)) ⟨vin (by omega) (by omega), bO W i, by rw [nI_clamp (by omega), t2]; exact (hM.b hib).1, hM.okB hv hib, bO W i, by rw [nI_clamp (by omega), t2]; exact (hM.b hib).1, hM.okB hv hib, ?_⟩)
        have x5 : gI τ (bO W i) 5 = nI (W 19 i) := (t1 _ _ (by unfold scX; omega) (fun z => absurd z.1 (by omega))).trans (hD.2.2.1 i hib).2
        rw [x5]
        refine dm (by decide) ?_
        rintro s2 rfl
        refine ⟨vin (by omega) (by omega), ?_⟩
        rw [nI_clamp (by omega), gI_o (by omega), low 10 _ (by omega) (by unfold scX; omega), hD.2.1 _ hdi.2.1, ← hdi.2.2.2.2]
        rintro s4 rfl v rfl
        rw [nI_1]
        refine kk _ ⟨fun c k g1 g2 => ?_, t2, ?_⟩
        · rw [gI_uI]
          split
          · rename_i z
            rw [z.1, z.2]
            exact ((hM.b hib).2.2.2.2.2.2.2.1).symm
          · rename_i z
            rw [gI_uI]
            split
            · rename_i y
              rw [y.1, y.2]
              exact ((hD.2.2.1 i hib).2).symm
            · refine t1 c k g1 (fun ⟨e7, i', g3, g4, e⟩ => ?_)
              by_cases ei : i' = i
              · subst ei
                exact z ⟨e, e7⟩
              · exact g2 ⟨e7, i', by omega, g4, e⟩
        · unfold bX at t3 ⊢
          cases ho : oW W with
          | none =>
            rw [ho] at t3
            rw [gI_o (by omega), gI_o (by omega)]
            exact t3
          | some u =>
            rw [ho] at t3
            simp only at t3 ⊢
            rw [gI_o (by omega), gI_o (by omega), gI_o (by omega), gI_o (by omega)]
            refine ⟨t3.1, t3.2.1, fun k hk => ?_⟩
            rw [gI_o (by omega), gI_o (by omega)]
            exact t3.2.2 k hk
  · refine dn rfl ?_
    have hp := h (uI σ 0 9 (-1)) e1
    rw [oW_bad hd hst] at hp
    exact hp gI_s
-- the reference
theorem wa_mr {W : Vw} {ρ τ : St} (hv : Iv W) (hd : Dv W) (hR : MR W ρ) (hD : DR W ρ) {f : Nat → Nat} (hf : ∀ k, k < fbn W → f k < W 0 5) (t1 : ∀ c k, ¬ scR c k → ¬ (c = 17 ∧ k < fbn W) → gI τ c k = gI ρ c k) (t2 : ∀ k, k < fbn W → gI τ 17 k = nI (f k)) : MR (wa W (fbn W) f) τ ∧ (∀ k, k < W 0 4 → gI τ 16 k = nI (wa W (fbn W) f 18 k) ∧ gI τ 17 k = nI (wa W (fbn W) f 19 k)) := by
  have hc := hv.c
  have hdc := hd.1
  obtain ⟨n1, n2, n3⟩ := fbn_r W
  have w : ∀ x y, ¬ x = 19 → ¬ x = 16 → wa W (fbn W) f x y = W x y := fun x y h1 h2 => wa_o (by omega)
  have q : ∀ c k, ¬ scR c k → ¬ c = 17 → gI τ c k = gI ρ c k := fun c k g1 g2 => t1 c k g1 (fun z => g2 z.1)
  refine ⟨⟨?_, ?_, ?_, ?_⟩, fun k hk => ?_⟩
  · rw [w 0 0 (by omega) (by omega), w 0 1 (by omega) (by omega), w 0 2 (by omega) (by omega), w 0 3 (by omega) (by omega), w 0 4 (by omega) (by omega), q _ _ (by unfold scR; omega) (by omega), q _ _ (by unfold scR; omega) (by omega), q _ _ (by unfold scR; omega) (by omega), q _ _ (by unfold scR; omega) (by omega), q _ _ (by unfold scR; omega) (by omega)]
    exact hR.1
  · intro s hs
    rw [w 0 0 (by omega) (by omega)] at hs
    rw [w 1 s (by omega) (by omega), w 2 s (by omega) (by omega), q _ _ (by unfold scR; omega) (by omega), q _ _ (by unfold scR; omega) (by omega)]
    exact hR.s hs
  · intro m hm
    rw [w 0 3 (by omega) (by omega)] at hm
    rw [w 3 m (by omega) (by omega), w 4 m (by omega) (by omega), w 5 m (by omega) (by omega), w 6 m (by omega) (by omega), w 7 m (by omega) (by omega), w 8 m (by omega) (by omega), q 6 m (by unfold scR; omega) (by omega), q 8 m (by unfold scR; omega) (by omega), q 9 m (by unfold scR; omega) (by omega), q 0 34 (by unfold scR; omega) (by omega), q 0 35 (by unfold scR; omega) (by omega), q 7 m (by unfold scR; omega) (by omega), q 10 m (by unfold scR; omega) (by omega), q 11 m (by unfold scR; omega) (by omega)]
    exact hR.m hm
  · intro k hk
    rw [w 0 4 (by omega) (by omega)] at hk
    obtain ⟨r1, r2, r3, r4, r5, r6, r7, r8⟩ := hR.b hk
    have ne : ¬ nI k = gI ρ 0 29 := by rw [hD.2.2.2.1]; exact ne_m1 (by omega)
    have q12 : ∀ x, gI τ 12 x = gI ρ 12 x := fun x => q _ _ (by unfold scR; omega) (by omega)
    rw [w 10 k (by omega) (by omega), w 11 k (by omega) (by omega), w 12 k (by omega) (by omega), w 13 k (by omega) (by omega), w 14 k (by omega) (by omega), w 15 k (by omega) (by omega), q 13 k (by unfold scR; omega) (by omega), q 14 k (by unfold scR; omega) (by omega), q 15 k (by unfold scR; omega) (by omega), q 18 k (by unfold scR; omega) (by omega), q 19 k (by unfold scR; omega) (by omega), q 0 29 (by unfold scR; omega) (by omega), q 16 k (by unfold scR; omega) (by omega)]
    simp only [q12]
    refine ⟨r1, r2, r3, r4, r5, r6, fun _ => ?_, fun z => absurd z ne⟩
    by_cases z : k < fbn W
    · have := hf k z
      exact ⟨f k, by omega, t2 k z, by rw [wa_16 z]; exact hD.2.1 _ this⟩
    · rw [wa_o (x := 16) (by omega), t1 17 k (by unfold scR; omega) (by omega)]
      exact r7 ne
  · obtain ⟨d1, d2⟩ := hD.2.2.1 k hk
    rw [w 18 k (by omega) (by omega), q 16 k (by unfold scR; omega) (by omega)]
    refine ⟨d1, ?_⟩
    by_cases z : k < fbn W
    · rw [wa_19 z]; exact t2 k z
    · rw [wa_o (x := 19) (by omega), t1 17 k (by unfold scR; omega) (by omega)]
      exact d2
theorem sR_anyTwice {W : Vw} {ρ : St} (hv : Iv W) (hdc : W 0 5 ≤ 12) (hdk : ∀ k, k < W 0 4 → W 18 k < W 0 5 ∧ W 19 k < W 0 5) (hR : MR W ρ) (h20 : gI ρ 0 20 = nI (W 0 5)) (hD : ∀ k, k < W 0 4 → gI ρ 16 k = nI (W 18 k) ∧ gI ρ 17 k = nI (W 19 k)) {post : Int32 → St → Prop} (h : post (bI (!(nn (W 0 4) (fun k => decide (W 18 k = W 19 k)) && nn (W 0 5) (tw W)))) ρ) : wX12_anyTwice ρ post := by
  have hc := hv.c
  refine lpc2 (wX12_anyTwice_4 post) (W 0 5) (by omega) (fun i v τ => τ = ρ ∧ v = bI (!nn i (tw W))) ?_ ?_ 0 ρ ⟨rfl, rfl⟩
  · rintro n v τ ⟨rfl, rfl⟩
    rw [wX12_anyTwice_4_s]
    refine dt (by rw [h20]; exact nI_le (Nat.le_refl _) (by omega)) ?_
    refine lpc2 (wX12_anyTwice_38 post) (W 0 4) (by omega) (fun i v υ => υ = τ ∧ v = bI (!(nn i (fun k => decide (W 18 k = W 19 k)) && nn (W 0 5) (tw W)))) ?_ ?_ _ τ ⟨rfl, by simp [nn]⟩
    · rintro n v υ ⟨rfl, rfl⟩
      rw [wX12_anyTwice_38_s]
      exact dt (by rw [hR.bs]; exact nI_le (Nat.le_refl _) (by omega)) ⟨bI_B _, h⟩
    · rintro n i v υ hi ⟨rfl, rfl⟩ kk
      rw [wX12_anyTwice_38_s]
      have hk := hdk i hi
      obtain ⟨d1, d2⟩ := hD i hi
      have go : ∀ x, x = bI (!(nn (i + 1) (fun k => decide (W 18 k = W 19 k)) && nn (W 0 5) (tw W))) → wX12_anyTwice_70 (wX12_anyTwice_38 post n) post (nI i) x υ := by
        rintro x rfl v1 rfl
        rw [nI_1]
        exact kk _ _ ⟨rfl, rfl⟩
      refine df (by rw [hR.bs]; exact nI_ge hi (by omega)) (bI_e (fun b => ⟨vin (by omega) (by omega), ?_⟩) (fun b => ?_))
      · rw [nI_clamp (by omega), d1, d2, nI_eq (by omega) (by omega)]
        have b' : (nn i (fun k => decide (W 18 k = W 19 k)) && nn (W 0 5) (tw W)) = true := by
          cases hx : (nn i (fun k => decide (W 18 k = W 19 k)) && nn (W 0 5) (tw W))
          · rw [hx] at b; exact absurd b (by decide)
          · rfl
        rw [Bool.and_eq_true] at b'
        by_cases z : W 18 i = W 19 i
        · exact dn z (go 1 (by rw [nn_s]; simp [z]; rfl))
        · exact dm z (go 0 (by rw [nn_s, b'.1, b'.2]; simp [z]; rfl))
      · refine go 1 ?_
        have b' : (nn i (fun k => decide (W 18 k = W 19 k)) && nn (W 0 5) (tw W)) = false := by
          cases hx : (nn i (fun k => decide (W 18 k = W 19 k)) && nn (W 0 5) (tw W))
          · rfl
          · rw [hx] at b; exact absurd b (by decide)
        rw [nn_s]
        have e : (nn i (fun k => decide (W 18 k = W 19 k)) && !decide (W 18 i = W 19 i) && nn (W 0 5) (tw W)) = false := by
          rw [Bool.and_assoc, Bool.and_comm (!decide _), ← Bool.and_assoc, b', Bool.false_and]
        rw [e]
        rfl
  · rintro n i v τ hi ⟨rfl, rfl⟩ kk
    rw [wX12_anyTwice_4_s]
    have go : ∀ x, x = bI (!nn (i + 1) (tw W)) → wX12_anyTwice_29 (wX12_anyTwice_4 post n) post (nI i) x τ := by
      rintro x rfl v1 rfl
      rw [nI_1]
      exact kk _ _ ⟨rfl, rfl⟩
    refine df (by rw [h20]; exact nI_ge hi (by omega)) (bI_e (fun b => ?_) (fun b => ?_))
    · have b' : nn i (tw W) = true := by
        cases hx : nn i (tw W)
        · rw [hx] at b; exact absurd b (by decide)
        · rfl
      refine sR_isTwice hv hdc hdk hR hD (by omega) (bI_d (fun b2 => ?_) (fun b2 => ?_))
      · exact go 0 (by rw [nn_s, b', b2]; rfl)
      · exact go 1 (by rw [nn_s, b', b2]; rfl)
    · have b' : nn i (tw W) = false := by
        cases hx : nn i (tw W)
        · rfl
        · rw [hx] at b; exact absurd b (by decide)
      exact go 1 (by rw [nn_s, b']; rfl)
