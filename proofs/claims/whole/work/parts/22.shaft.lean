/-! PURE: new shafts and machines -/
def wsh (W : Vw) (p q : Nat) : Vw := wu (wu (wu W 1 (W 0 0) p) 2 (W 0 0) q) 0 0 (W 0 0 + 1)
theorem wsh_o {W : Vw} {p q x y : Nat} (h0 : ¬ (x = 0 ∧ y = 0)) (h1 : ¬ ((x = 1 ∨ x = 2) ∧ y = W 0 0)) : wsh W p q x y = W x y := by
  unfold wsh
  rw [wu_o (by omega), wu_o (by omega), wu_o (by omega)]
theorem shaft_up {W : Vw} {ids : List Nat} {σ ρ : St} (h : RW W ids σ ρ) (hn : W 0 0 < 8) {p q : Nat} (hp : p ≤ 99) (hq : q ≤ 9999) : RW (wsh W p q) ids (uI (uJ (uI (uI (uI σ 3 (W 0 0) (nI p)) 4 (W 0 0) (nI q)) 5 (W 0 0) (-1)) 7 (W 0 0) 1) 1 0 (nI (W 0 0) + 1)) (uI (uI (uI ρ 4 (W 0 0) (nI p)) 5 (W 0 0) (nI q)) 0 9 (nI (W 0 0) + 1)) := by
  have hv := h.iv
  have hc := hv.c
  rw [nI_1]
  have w : ∀ x y, ¬ (x = 0 ∧ y = 0) → ¬ ((x = 1 ∨ x = 2) ∧ y = W 0 0) → wsh W p q x y = W x y := fun x y g1 g2 => wsh_o g1 g2
  have w00 : wsh W p q 0 0 = W 0 0 + 1 := rfl
  have w1 : wsh W p q 1 (W 0 0) = p := by unfold wsh; rw [wu_o (by omega), wu_o (by omega), wu_s]
  have w2 : wsh W p q 2 (W 0 0) = q := by unfold wsh; rw [wu_o (by omega), wu_s]
  have nX : ∀ c j, ¬ ((c = 3 ∨ c = 4 ∨ c = 5) ∧ j = W 0 0) → ¬ (c = 1 ∧ j = 0) → gI (uI (uJ (uI (uI (uI σ 3 (W 0 0) (nI p)) 4 (W 0 0) (nI q)) 5 (W 0 0) (-1)) 7 (W 0 0) 1) 1 0 (nI (W 0 0 + 1))) c j = gI σ c j := fun c j g1 g2 => by rw [gI_o (by omega), gI_uJ, gI_o (by omega), gI_o (by omega), gI_o (by omega)]
  have nR : ∀ c j, ¬ ((c = 4 ∨ c = 5) ∧ j = W 0 0) → ¬ (c = 0 ∧ j = 9) → gI (uI (uI (uI ρ 4 (W 0 0) (nI p)) 5 (W 0 0) (nI q)) 0 9 (nI (W 0 0 + 1))) c j = gI ρ c j := fun c j g1 g2 => by rw [gI_o (by omega), gI_o (by omega), gI_o (by omega)]
  obtain ⟨i1, i2, i3, i4, i5, i6, i7, i8⟩ := hv
  have hv := h.iv
  have w0 : ∀ y, ¬ y = 0 → wsh W p q 0 y = W 0 y := fun y hy => w 0 y (by omega) (by omega)
  have wf : ∀ x, 3 ≤ x → ∀ y, wsh W p q x y = W x y := fun x hx y => w x y (by omega) (by omega)
  have hM := h.mx
  have hR := h.mr
  have edu : ∀ s, du (wsh W p q) (wsh W p q 0 4) s = du W (W 0 4) s := fun s => by rw [w0 4 (by omega), du_cg (fun y => wf 12 (by omega) y)]
  refine h.up ⟨?_, ?_, ?_, ?_, ?_, ?_, ?_, ?_⟩ (h.dv.fr ?_) (h.2.1.fr ⟨?_, ?_, ?_, ?_, ?_⟩ ⟨?_, ?_, ?_, ?_⟩ (h.ix.fr hv ?_ ?_) (h.ts.fr ?_ ?_) (w0 _ (by omega)) (w0 _ (by omega)) (wf _ (by omega)) (fun _ _ => rfl)) ⟨⟨?_, ?_, ?_, ?_⟩, ⟨?_, ?_, ?_, ?_, ?_⟩, h.ir.fr ?_ ?_, h.tq.fr ?_ ?_⟩ (w0 _ (by omega)) ?_ ?_
  · rw [w00, w0 1 (by omega), w0 2 (by omega), w0 3 (by omega), w0 4 (by omega)]
    exact ⟨hn, i1.2⟩
  · intro s hs
    rw [w00] at hs
    by_cases g : s = W 0 0
    · rw [g, w1, w2]; exact ⟨hp, hq⟩
    · rw [w 1 s (by omega) (by omega), w 2 s (by omega) (by omega)]
      exact i2 s (by omega)
  · intro m hm
    rw [w0 3 (by omega)] at hm
    obtain ⟨a1, a2⟩ := i3 m hm
    rw [w00, wf 3 (by omega), wf 4 (by omega), wf 5 (by omega), wf 6 (by omega), wf 7 (by omega), wf 8 (by omega)]
    exact ⟨by omega, a2⟩
  · intro k hk
    rw [w0 4 (by omega)] at hk
    obtain ⟨a1, a2, a3, a4⟩ := i4 k hk
    rw [w00, wf 10 (by omega), wf 11 (by omega), wf 12 (by omega), wf 13 (by omega), wf 14 (by omega), wf 15 (by omega), wf 16 (by omega)]
    exact ⟨a1, by omega, by omega, a4⟩
  · intro j k hj hk
    rw [w0 4 (by omega)] at hj hk
    rw [wf 12 (by omega), wf 12 (by omega)]
    exact i5 j k hj hk
  · intro i hi
    rw [w0 4 (by omega)] at hi
    rw [w0 4 (by omega), wf 17 (by omega)]
    exact i6 i hi
  · intro k hk
    rw [w0 4 (by omega)] at hk
    obtain ⟨i, hi, e⟩ := i7 k hk
    exact ⟨i, by rw [w0 4 (by omega)]; exact hi, by rw [wf 17 (by omega)]; exact e⟩
  · intro i j hi hj e
    rw [w0 4 (by omega)] at hi hj
    rw [wf 12 (by omega), wf 17 (by omega), wf 11 (by omega)] at e
    obtain ⟨i', hi', e'⟩ := i8 i j hi hj e
    exact ⟨i', hi', by rw [wf 17 (by omega)]; exact e'⟩
  · intro a b hc; exact w _ _ (by unfold cV at hc; omega) (by unfold cV at hc; omega)
  · rw [w00, w0 1 (by omega), w0 2 (by omega), w0 3 (by omega), w0 4 (by omega), gI_s, nX _ _ (by omega) (by omega), nX _ _ (by omega) (by omega), nX _ _ (by omega) (by omega), nX _ _ (by omega) (by omega)]
    exact ⟨rfl, hM.1.2⟩
  · intro s hs
    rw [w00] at hs
    by_cases g : s = W 0 0
    · rw [g, w1, w2, gI_o (by omega), gI_uJ, gI_o (by omega), gI_o (by omega), gI_s, gI_o (by omega), gI_uJ, gI_o (by omega), gI_s]
      exact ⟨rfl, rfl⟩
    · rw [w 1 s (by omega) (by omega), w 2 s (by omega) (by omega), nX _ _ (by omega) (by omega), nX _ _ (by omega) (by omega)]
      exact hM.s (by omega)
  · intro m hm
    rw [w0 3 (by omega)] at hm
    rw [wf 3 (by omega), wf 4 (by omega), wf 5 (by omega), wf 6 (by omega), wf 7 (by omega), wf 8 (by omega), nX _ _ (by omega) (by omega), nX _ _ (by omega) (by omega), nX _ _ (by omega) (by omega), nX _ _ (by omega) (by omega), nX _ _ (by omega) (by omega), nX _ _ (by omega) (by omega)]
    exact hM.m hm
  · intro k hk
    rw [w0 4 (by omega)] at hk
    have hr := bO_r hv hk
    rw [bO_cg (wf 10 (by omega) k), wf 10 (by omega), wf 11 (by omega), wf 12 (by omega), wf 13 (by omega), wf 14 (by omega), wf 15 (by omega), wf 16 (by omega), nX _ _ (by omega) (by omega), nX _ _ (by omega) (by omega), nX _ _ (by omega) (by omega), nX _ _ (by omega) (by omega), nX _ _ (by omega) (by omega), nX _ _ (by omega) (by omega), nX _ _ (by omega) (by omega)]
    exact hM.b hk
  · intro i hi
    rw [w0 4 (by omega)] at hi
    rw [nX _ _ (by omega) (by omega), wf 17 (by omega)]
    exact hM.o hi
  · rw [nX _ _ (by omega) (by omega), w0 5 (by omega)]; exact h.dx.1
  · intro d hd
    rw [w0 5 (by omega)] at hd
    rw [nX _ _ (by omega) (by omega), wf 20 (by omega)]
    exact h.dx.2.1 d hd
  · intro k hk
    rw [w0 4 (by omega)] at hk
    have hr := bO_r hv hk
    rw [bO_cg (wf 10 (by omega) k), nX _ _ (by omega) (by omega), nX _ _ (by omega) (by omega), wf 18 (by omega), wf 19 (by omega)]
    exact h.dx.2.2.1 k hk
  · intro s hs
    rw [w00] at hs
    rw [edu]
    by_cases g : s = W 0 0
    · rw [g, gI_o (by omega), gI_uJ, gI_s]
      cases hd : du W (W 0 4) (W 0 0) with
      | none => rfl
      | some k =>
        have a := du_some hd
        have := (hv.b a.1).2.2.1
        omega
    · rw [nX _ _ (by omega) (by omega)]
      exact h.dx.2.2.2 s (by omega)
  · intro a b hc; exact w _ _ (by unfold cI at hc; omega) (by unfold cI at hc; omega)
  · intro c k hk; exact nX _ _ (by unfold kI at hk; omega) (by unfold kI at hk; omega)
  · intro a b hc; exact w _ _ (by unfold cT at hc; omega) (by unfold cT at hc; omega)
  · intro c k hk; exact nX _ _ (by unfold kT at hk; omega) (by unfold kT at hk; omega)
  · rw [w00, w0 1 (by omega), w0 2 (by omega), w0 3 (by omega), w0 4 (by omega), gI_s, nR _ _ (by omega) (by omega), nR _ _ (by omega) (by omega), nR _ _ (by omega) (by omega), nR _ _ (by omega) (by omega)]
    exact ⟨rfl, hR.1.2⟩
  · intro s hs
    rw [w00] at hs
    by_cases g : s = W 0 0
    · rw [g, w1, w2, gI_o (by omega), gI_o (by omega), gI_s, gI_o (by omega), gI_s]
      exact ⟨rfl, rfl⟩
    · rw [w 1 s (by omega) (by omega), w 2 s (by omega) (by omega), nR _ _ (by omega) (by omega), nR _ _ (by omega) (by omega)]
      exact hR.s (by omega)
  · intro m hm
    rw [w0 3 (by omega)] at hm
    rw [wf 3 (by omega), wf 4 (by omega), wf 5 (by omega), wf 6 (by omega), wf 7 (by omega), wf 8 (by omega), nR 6 m (by omega) (by omega), nR 8 m (by omega) (by omega), nR 9 m (by omega) (by omega), nR 0 34 (by omega) (by omega), nR 0 35 (by omega) (by omega), nR 7 m (by omega) (by omega), nR 10 m (by omega) (by omega), nR 11 m (by omega) (by omega)]
    exact hR.m hm
  · intro k hk
    rw [w0 4 (by omega)] at hk
    rw [wf 10 (by omega), wf 11 (by omega), wf 12 (by omega), wf 13 (by omega), wf 14 (by omega), wf 15 (by omega), wf 16 (by omega), nR 13 k (by omega) (by omega), nR 14 k (by omega) (by omega), nR 15 k (by omega) (by omega), nR 18 k (by omega) (by omega), nR 19 k (by omega) (by omega), nR 0 29 (by omega) (by omega), nR 0 30 (by omega) (by omega), nR 16 k (by omega) (by omega), nR 17 k (by omega) (by omega)]
    have n12 : ∀ d, gI (uI (uI (uI ρ 4 (W 0 0) (nI p)) 5 (W 0 0) (nI q)) 0 9 (nI (W 0 0 + 1))) 12 d = gI ρ 12 d := fun d => nR _ _ (by omega) (by omega)
    simp only [n12]
    exact hR.b hk
  · rw [nR _ _ (by omega) (by omega), w0 5 (by omega)]; exact h.dr.1
  · intro d hd
    rw [w0 5 (by omega)] at hd
    rw [nR _ _ (by omega) (by omega), wf 20 (by omega)]
    exact h.dr.2.1 d hd
  · intro k hk
    rw [w0 4 (by omega)] at hk
    rw [nR _ _ (by omega) (by omega), nR _ _ (by omega) (by omega), wf 18 (by omega), wf 19 (by omega)]
    exact h.dr.2.2.1 k hk
  · rw [nR _ _ (by omega) (by omega)]; exact h.dr.2.2.2.1
  · rw [nR _ _ (by omega) (by omega)]; exact h.dr.2.2.2.2
  · intro a b hc; exact w _ _ (by unfold cI at hc; omega) (by unfold cI at hc; omega)
  · intro c k hk; exact nR _ _ (by unfold qI at hk; omega) (by unfold qI at hk; omega)
  · intro a b hc; exact w _ _ (by unfold cT at hc; omega) (by unfold cT at hc; omega)
  · intro c k hk; exact nR _ _ (by unfold qT at hk; omega) (by unfold qT at hk; omega)
  · intro c k h1 h2; exact nX _ _ (by omega) (by omega)
  · intro c k hk; exact nR _ _ (by omega) (by omega)
theorem pc_shaft {ids : List Nat} {σ ρ : St} (a1 : Int32) (a2 : Int32) (h : Rel ids σ ρ) : wX11_shaft ids a1 a2 σ (fun r σ1 => wX12_shaft a1 a2 ρ (fun r2 ρ1 => r = r2 ∧ Rel ids σ1 ρ1)) := by
  obtain ⟨-, W, h⟩ := h
  have hv := h.iv
  have hc := hv.c
  have e8 : (nI (W 0 0) = (8 : Int32)) ↔ W 0 0 = 8 := nI_eq (b := 8) (by omega) (by omega)
  refine sX_within 0 99 rfl rfl (bI_d (fun b => ?_) (fun b => ?_))
  · refine sR_inI 0 99 rfl rfl ?_
    rw [b]
    exact dt rfl ⟨rfl, h.rel⟩
  · obtain ⟨p, hp, rfl⟩ := wi_k (N := 99) b
    refine sX_within 1 9999 rfl rfl (bI_e (fun b2 => ?_) (fun b2 => ?_))
    · refine sR_inI 0 99 rfl rfl ?_
      rw [b]
      refine df (by decide) (sR_inI 1 9999 rfl rfl ?_)
      rw [b2]
      exact dn rfl ⟨rfl, h.rel⟩
    · obtain ⟨q, hq1, hq, rfl⟩ := wi_1 (by decide) b2
      have rgo : ∀ P : Int32 → St → Prop, (W 0 0 = 8 → P (-4) ρ) → (¬ W 0 0 = 8 → P (nI (W 0 0)) (uI (uI (uI ρ 4 (W 0 0) (nI p)) 5 (W 0 0) (nI q)) 0 9 (nI (W 0 0) + 1))) → wX12_shaft (nI p) (nI q) ρ P := by
        intro P p1 p2
        refine sR_inI 0 99 rfl rfl ?_
        rw [b]
        refine df (by decide) (sR_inI 1 9999 rfl rfl ?_)
        rw [b2, h.mr.sh, e8]
        by_cases f : W 0 0 = 8
        · exact dm (by decide) (dn f (p1 f))
        · refine dm (by decide) (dm f ⟨vin (by omega) (by omega), ?_⟩)
          rw [nI_clamp (by omega)]
          rintro σ9 rfl
          rw [gI_o (by omega), h.mr.sh, nI_clamp (by omega)]
          refine ⟨vin (by omega) (by omega), ?_⟩
          rintro σ11 rfl
          rw [gI_o (by omega), gI_o (by omega), h.mr.sh]
          rintro σ12 rfl
          rw [gI_s, nI_1, nI_pred, ← nI_1]
          exact p2 f
      rw [h.mx.sh, e8]
      by_cases f : W 0 0 = 8
      · exact dn f (rgo _ (fun _ => ⟨rfl, h.rel⟩) (fun z => absurd f z))
      · refine dm f ⟨by rw [h.mx.sh]; exact vin (by omega) (by omega), ?_⟩
        rw [h.mx.sh, nI_clamp (by omega)]
        rintro σ2 rfl
        rw [gI_o (by omega), h.mx.sh, nI_clamp (by omega)]
        refine ⟨vin (by omega) (by omega), ?_⟩
        rintro σ4 rfl
        rw [gI_o (by omega), gI_o (by omega), h.mx.sh, nI_clamp (by omega)]
        refine ⟨vin (by omega) (by omega), ?_⟩
        rintro σ6 rfl
        rw [gI_o (by omega), gI_o (by omega), gI_o (by omega), h.mx.sh, nI_clamp (by omega)]
        refine ⟨vin (by omega) (by omega), ?_⟩
        rintro σ8 rfl
        rw [gI_uJ, gI_o (by omega), gI_o (by omega), gI_o (by omega), h.mx.sh]
        rintro σ9 rfl
        exact rgo _ (fun z => absurd z f) (fun _ => ⟨rfl, (shaft_up h (by omega) hp hq).rel⟩)
