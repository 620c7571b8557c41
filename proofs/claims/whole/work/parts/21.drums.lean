/-! PURE: drums at belts' ends; new drums and shafts -/
theorem sX_putDrum {W : Vw} {ids : List Nat} {σ : St} (hv : Iv W) (hD : DX W σ) (h5 : W 0 5 ≤ 12) {k d e : Nat} (he : e ≤ 1) (hk : k < W 0 4) (hd : d < W 0 5) {post : St → Prop} (h : post (uI (uI σ (bO W k) (4 + e) (nI d)) (bO W k) (6 + e) (nI (W 20 d)))) : wX6_putDrum ids (bO W k) (nI e) (nI d) σ post := by
  have hr := bO_r hv hk
  have e10 : ∀ j, gI (uI σ (bO W k) j (nI d)) 10 d = nI (W 20 d) := fun j => by rw [gI_o (by omega)]; exact hD.2.1 d hd
  have : e = 0 ∨ e = 1 := by omega
  rcases this with rfl | rfl
  · refine dn rfl ?_
    rintro σ5 rfl
    refine ⟨vin (by omega) (by omega), ?_⟩
    rw [nI_clamp (by omega), e10]
    rintro σ7 rfl
    exact h
  · refine dm (by decide) ?_
    rintro σ5 rfl
    refine ⟨vin (by omega) (by omega), ?_⟩
    rw [nI_clamp (by omega), e10]
    rintro σ7 rfl
    exact h
/-- the view with a drum put -/
def wp (W : Vw) (e k d : Nat) : Vw := wu (wu W (18 + e) k d) (15 + e) k (W 20 d)
theorem wp_o {W : Vw} {e k d x y : Nat} (h1 : ¬ (x = 18 + e ∧ y = k)) (h2 : ¬ (x = 15 + e ∧ y = k)) : wp W e k d x y = W x y := by
  unfold wp
  rw [wu_o h2, wu_o h1]
theorem wp_d {W : Vw} {e k d : Nat} : wp W e k d (18 + e) k = d := by
  unfold wp
  rw [wu_o (by omega), wu_s]
theorem wp_s {W : Vw} {e k d : Nat} : wp W e k d (15 + e) k = W 20 d := by
  unfold wp
  rw [wu_s]
theorem Iv.size {W : Vw} (h : Iv W) {e : Nat} (he : e ≤ 1) (k : Nat) {z : Nat} (h1 : 1 ≤ z) (h2 : z ≤ 99) : Iv (wu W (15 + e) k z) := by
  obtain ⟨g1, g2, g3, g4, g5, g6, g7, g8⟩ := h
  refine ⟨?_, ?_, ?_, ?_, ?_, ?_, ?_, ?_⟩
  · rw [wu_o (by omega), wu_o (by omega), wu_o (by omega), wu_o (by omega), wu_o (by omega)]; exact g1
  · intro s hs
    rw [wu_o (by omega)] at hs
    rw [wu_o (by omega), wu_o (by omega)]
    exact g2 s hs
  · intro m hm
    rw [wu_o (by omega)] at hm
    rw [wu_o (by omega), wu_o (by omega), wu_o (by omega), wu_o (by omega), wu_o (by omega), wu_o (by omega), wu_o (by omega)]
    exact g3 m hm
  · intro j hj
    rw [wu_o (by omega)] at hj
    obtain ⟨b1, b2, b3, b4, b5, b6, b7, b8, b9, b10, b11⟩ := g4 j hj
    have w : ∀ x y, ¬ x = 15 + e → wu W (15 + e) k z x y = W x y := fun x y h => wu_f h y
    rw [w 10 j (by omega), w 11 j (by omega), w 12 j (by omega), w 13 j (by omega), w 14 j (by omega), w 0 0 (by omega)]
    refine ⟨b1, b2, b3, b4, b5, b6, b7, ?_, ?_, ?_, ?_⟩ <;> (unfold wu; split <;> assumption)
  · intro j i hj hi
    rw [wu_o (by omega)] at hj hi
    rw [wu_o (by omega), wu_o (by omega)]
    exact g5 j i hj hi
  · intro i hi
    rw [wu_o (by omega)] at hi
    rw [wu_o (by omega), wu_o (by omega)]
    exact g6 i hi
  · intro j hj
    rw [wu_o (by omega)] at hj
    obtain ⟨i, hi, e⟩ := g7 j hj
    refine ⟨i, ?_, ?_⟩ <;> rw [wu_o (by omega)] <;> assumption
  · intro i j hi hj e2
    rw [wu_o (by omega)] at hi hj
    rw [wu_f (x := 12) (by omega), wu_f (x := 17) (by omega), wu_f (x := 11) (by omega)] at e2
    obtain ⟨i', hi', e'⟩ := g8 i j hi hj e2
    refine ⟨i', hi', ?_⟩
    rw [wu_o (by omega)]
    exact e'
theorem put_iv {W : Vw} (hv : Iv W) {e : Nat} (he : e ≤ 1) (k : Nat) {d : Nat} (hz : 1 ≤ W 20 d ∧ W 20 d ≤ 99) : Iv (wp W e k d) := by
  have h1 : Iv (wu W (18 + e) k d) := hv.fr (fun a b hc => wu_o (by unfold cM at hc; omega))
  exact h1.size he k hz.1 hz.2
theorem put_rx {W : Vw} {ids : List Nat} {σ : St} (hv : Iv W) (h : RX W ids σ) {k d e : Nat} (he : e ≤ 1) (hk : k < W 0 4) : RX (wp W e k d) ids (uI (uI σ (bO W k) (4 + e) (nI d)) (bO W k) (6 + e) (nI (W 20 d))) := by
  have hr := bO_r hv hk
  have hc := hv.c
  have w : ∀ x y, ¬ x = 18 + e → ¬ x = 15 + e → wp W e k d x y = W x y := fun x y h1 h2 => wp_o (fun z => h1 z.1) (fun z => h2 z.1)
  obtain ⟨h1, h2, h3, h4, h5⟩ := h
  have h2a : MX (wu W (18 + e) k d) ids (uI σ (bO W k) (4 + e) (nI d)) := h2.fr hv (fun a b hc => wu_o (by unfold cM at hc; omega)) (fun c j hj => gI_o (by unfold kM at hj; omega)) (fun _ _ => rfl)
  have hv1 : Iv (wu W (18 + e) k d) := hv.fr (fun a b hc => wu_o (by unfold cM at hc; omega))
  have eb : bO (wu W (18 + e) k d) k = bO W k := bO_cg (wu_o (by omega))
  have e4 : wu W (18 + e) k d 0 4 = W 0 4 := wu_o (by omega)
  have h2b : MX (wp W e k d) ids (uI (uI σ (bO W k) (4 + e) (nI d)) (bO W k) (6 + e) (nI (W 20 d))) := h2a.one hv1 (W 20 d) (Or.inr ⟨by rw [e4]; exact hk, eb.symm, by omega⟩)
  refine ⟨h1.fr (w _ _ (by omega) (by omega)) (w _ _ (by omega) (by omega)) (fun y => w _ _ (by omega) (by omega)) (fun _ _ => rfl), h2b, ?_, h4.fr hv ?_ ?_, h5.fr ?_ ?_⟩
  · obtain ⟨d1, d2, d3, d4⟩ := h3
    have n : ∀ c j, ¬ (c = bO W k ∧ (j = 4 + e ∨ j = 6 + e)) → gI (uI (uI σ (bO W k) (4 + e) (nI d)) (bO W k) (6 + e) (nI (W 20 d))) c j = gI σ c j := fun c j h => by rw [gI_o (by omega), gI_o (by omega)]
    refine ⟨?_, ?_, ?_, ?_⟩
    · rw [n _ _ (by omega), w _ _ (by omega) (by omega)]; exact d1
    · intro j hj
      rw [w _ _ (by omega) (by omega)] at hj
      rw [n _ _ (by omega), w _ _ (by omega) (by omega)]
      exact d2 j hj
    · intro j hj
      rw [w _ _ (by omega) (by omega)] at hj
      have hr2 := bO_r hv hj
      have ej : bO (wp W e k d) j = bO W j := bO_cg (w _ _ (by omega) (by omega))
      rw [ej]
      obtain ⟨q1, q2⟩ := d3 j hj
      by_cases g : j = k
      · subst g
        have : e = 0 ∨ e = 1 := by omega
        rcases this with rfl | rfl
        · refine ⟨?_, ?_⟩
          · rw [gI_o (by omega), gI_s]
            exact congrArg nI (wp_d (e := 0)).symm
          · rw [n _ _ (by omega), w _ _ (by omega) (by omega)]
            exact q2
        · refine ⟨?_, ?_⟩
          · rw [n _ _ (by omega), w _ _ (by omega) (by omega)]
            exact q1
          · rw [gI_o (by omega), gI_s]
            exact congrArg nI (wp_d (e := 1)).symm
      · have nb : ¬ bO W j = bO W k := by
          have := (hv.b hj).1
          have := (hv.b hk).1
          unfold bO
          omega
        rw [n _ _ (by omega), n _ _ (by omega), wp_o (by omega) (by omega), wp_o (by omega) (by omega)]
        exact ⟨q1, q2⟩
    · intro s hs
      rw [w _ _ (by omega) (by omega)] at hs
      rw [n _ _ (by omega), w 0 4 (by omega) (by omega), du_cg (fun y => w _ _ (by omega) (by omega))]
      exact d4 s hs
  · intro a b hc; exact wp_o (by unfold cI at hc; omega) (by unfold cI at hc; omega)
  · intro c j hj
    unfold kI at hj
    rw [gI_o (by omega), gI_o (by omega)]
  · intro a b hc; exact wp_o (by unfold cT at hc; omega) (by unfold cT at hc; omega)
  · intro c j hj
    unfold kT at hj
    rw [gI_o (by omega), gI_o (by omega)]
theorem put_rr {W : Vw} {ρ : St} (hv : Iv W) (h : RR W ρ) {k d e : Nat} (he : e ≤ 1) (hk : k < W 0 4) (hd : d < W 0 5) (h5 : W 0 5 ≤ 12) : RR (wp W e k d) (uI ρ (16 + e) k (nI d)) := by
  have hc := hv.c
  have w : ∀ x y, ¬ x = 18 + e → ¬ x = 15 + e → wp W e k d x y = W x y := fun x y h1 h2 => wp_o (fun z => h1 z.1) (fun z => h2 z.1)
  have n : ∀ c j, ¬ (c = 16 + e ∧ j = k) → gI (uI ρ (16 + e) k (nI d)) c j = gI ρ c j := fun c j h => gI_o h
  obtain ⟨h1, h2, h3, h4⟩ := h
  have q : ∀ c, ¬ c = 16 + e → ∀ j, gI (uI ρ (16 + e) k (nI d)) c j = gI ρ c j := fun c h j => n c j (fun z => h z.1)
  have ne29 : ∀ j, j < 7 → ¬ nI j = gI ρ 0 29 := by
    intro j hj
    rw [h2.2.2.2.1]
    intro z
    have := congrArg Int32.toInt z
    rw [fb_nI (by omega)] at this
    have h1 : (-1 : Int32).toInt = -1 := by decide
    omega
  refine ⟨⟨?_, ?_, ?_, ?_⟩, ⟨?_, ?_, ?_, ?_, ?_⟩, h3.fr ?_ ?_, h4.fr ?_ ?_⟩
  · rw [w _ _ (by omega) (by omega), w _ _ (by omega) (by omega), w _ _ (by omega) (by omega), w _ _ (by omega) (by omega), w _ _ (by omega) (by omega), q 0 (by omega), q 0 (by omega), q 0 (by omega), q 0 (by omega), q 0 (by omega)]
    exact h1.1
  · intro s hs
    rw [w _ _ (by omega) (by omega)] at hs
    rw [q 4 (by omega), q 5 (by omega), w 1 s (by omega) (by omega), w 2 s (by omega) (by omega)]
    exact h1.s hs
  · intro m hm
    rw [w _ _ (by omega) (by omega)] at hm
    rw [q 6 (by omega), q 8 (by omega), q 9 (by omega), q 0 (by omega), q 7 (by omega), q 0 (by omega), q 10 (by omega), q 11 (by omega), w 3 m (by omega) (by omega), w 4 m (by omega) (by omega), w 5 m (by omega) (by omega), w 6 m (by omega) (by omega), w 7 m (by omega) (by omega), w 8 m (by omega) (by omega)]
    exact h1.m hm
  · intro j hj
    rw [w _ _ (by omega) (by omega)] at hj
    obtain ⟨r1, r2, r3, r4, r5, r6, r7, r8⟩ := h1.b hj
    rw [q 13 (by omega), q 14 (by omega), q 15 (by omega), q 18 (by omega), q 19 (by omega), w 10 j (by omega) (by omega), w 11 j (by omega) (by omega), w 12 j (by omega) (by omega), w 13 j (by omega) (by omega), w 14 j (by omega) (by omega), q 0 (by omega), q 0 (by omega)]
    simp only [q 12 (by omega)]
    have d12 := h2.2.1 d hd
    have : e = 0 ∨ e = 1 := by omega
    rcases this with rfl | rfl
    · refine ⟨r1, r2, r3, r4, r5, ?_, ?_⟩
      · by_cases g : j = k
        · subst g
          refine ⟨d, by omega, gI_s, ?_⟩
          rw [d12]
          exact congrArg nI (wp_s (e := 0)).symm
        · obtain ⟨d', e1, e2, e3⟩ := r6
          refine ⟨d', e1, ?_, ?_⟩
          · rw [n _ _ (by omega)]; exact e2
          · rw [wp_o (by omega) (by omega)]; exact e3
      · rw [w 16 j (by omega) (by omega), q 17 (by omega)]
        exact ⟨r7, r8⟩
    · refine ⟨r1, r2, r3, r4, r5, ?_, ?_, fun z => absurd z (ne29 j (by omega))⟩
      · rw [w 15 j (by omega) (by omega), q 16 (by omega)]
        exact r6
      · intro z
        by_cases g : j = k
        · subst g
          refine ⟨d, by omega, gI_s, ?_⟩
          rw [d12]
          exact congrArg nI (wp_s (e := 1)).symm
        · obtain ⟨d', e1, e2, e3⟩ := r7 z
          refine ⟨d', e1, ?_, ?_⟩
          · rw [n _ _ (by omega)]; exact e2
          · rw [wp_o (by omega) (by omega)]; exact e3
  · rw [q 0 (by omega), w _ _ (by omega) (by omega)]; exact h2.1
  · intro j hj
    rw [w _ _ (by omega) (by omega)] at hj
    rw [q 12 (by omega), w _ _ (by omega) (by omega)]
    exact h2.2.1 j hj
  · intro j hj
    rw [w _ _ (by omega) (by omega)] at hj
    obtain ⟨q1, q2⟩ := h2.2.2.1 j hj
    by_cases g : j = k
    · subst g
      have : e = 0 ∨ e = 1 := by omega
      rcases this with rfl | rfl
      · refine ⟨?_, ?_⟩
        · rw [gI_s]; exact congrArg nI (wp_d (e := 0)).symm
        · rw [q 17 (by omega), w _ _ (by omega) (by omega)]; exact q2
      · refine ⟨?_, ?_⟩
        · rw [q 16 (by omega), w _ _ (by omega) (by omega)]; exact q1
        · rw [gI_s]; exact congrArg nI (wp_d (e := 1)).symm
    · rw [n _ _ (by omega), n _ _ (by omega), wp_o (by omega) (by omega), wp_o (by omega) (by omega)]
      exact ⟨q1, q2⟩
  · rw [q 0 (by omega)]; exact h2.2.2.2.1
  · rw [q 0 (by omega)]; exact h2.2.2.2.2
  · intro a b hc; exact wp_o (by unfold cI at hc; omega) (by unfold cI at hc; omega)
  · intro c j hj; exact n _ _ (by unfold qI at hj; omega)
  · intro a b hc; exact wp_o (by unfold cT at hc; omega) (by unfold cT at hc; omega)
  · intro c j hj; exact n _ _ (by unfold qT at hj; omega)
theorem put_dv {W : Vw} (h : Dv W) {k d e : Nat} (he : e ≤ 1) (hd : d < W 0 5) (hne : d ≠ W (19 - e) k) : Dv (wp W e k d) := by
  have w : ∀ x y, ¬ x = 18 + e → ¬ x = 15 + e → wp W e k d x y = W x y := fun x y h1 h2 => wp_o (fun z => h1 z.1) (fun z => h2 z.1)
  obtain ⟨d1, d2, d3, d4, d5, d6, d7, d8⟩ := h
  have w0 : ∀ y, wp W e k d 0 y = W 0 y := fun y => w 0 y (by omega) (by omega)
  have w20 : ∀ y, wp W e k d 20 y = W 20 y := fun y => w 20 y (by omega) (by omega)
  refine ⟨?_, ?_, ?_, ?_, ?_, ?_, ?_, ?_⟩
  · simp only [w0]; exact d1
  · simp only [w0]; exact d2
  · simp only [w0, w20]; exact d3
  · intro j hj
    rw [w0] at hj
    obtain ⟨a1, a2, a3, a4, a5⟩ := d4 j hj
    rw [w0, w20, w20]
    by_cases g : j = k
    · subst g
      have : e = 0 ∨ e = 1 := by omega
      rcases this with rfl | rfl
      · have x1 : wp W 0 j d 18 j = d := wp_d (e := 0)
        have x2 : wp W 0 j d 15 j = W 20 d := wp_s (e := 0)
        rw [x1, x2, w 19 j (by omega) (by omega), w 16 j (by omega) (by omega)]
        exact ⟨hd, a2, hne, rfl, a5⟩
      · have x1 : wp W 1 j d 19 j = d := wp_d (e := 1)
        have x2 : wp W 1 j d 16 j = W 20 d := wp_s (e := 1)
        rw [x1, x2, w 18 j (by omega) (by omega), w 15 j (by omega) (by omega)]
        exact ⟨a1, hd, fun z => hne z.symm, a4, rfl⟩
    · rw [wp_o (x := 18) (by omega) (by omega), wp_o (x := 19) (by omega) (by omega), wp_o (x := 15) (by omega) (by omega), wp_o (x := 16) (by omega) (by omega)]
      exact ⟨a1, a2, a3, a4, a5⟩
  · intro m hm
    rw [w0] at hm
    rw [w 4 m (by omega) (by omega)]
    exact d5 m hm
  · intro j hj
    rw [w0] at hj
    rw [w0, w 21 j (by omega) (by omega), w 22 j (by omega) (by omega), w 23 j (by omega) (by omega)]
    exact d6 j hj
  · intro j hj
    rw [w0] at hj
    rw [w 24 j (by omega) (by omega), w 25 j (by omega) (by omega)]
    exact d7 j hj
  · intro j hj
    rw [w0] at hj
    rw [w 26 j (by omega) (by omega)]
    exact d8 j hj
theorem put_rw {W : Vw} {ids : List Nat} {σ ρ : St} (h : RW W ids σ ρ) {k d e : Nat} (he : e ≤ 1) (hk : k < W 0 4) (hd : d < W 0 5) (hne : d ≠ W (19 - e) k) : RW (wp W e k d) ids (uI (uI σ (bO W k) (4 + e) (nI d)) (bO W k) (6 + e) (nI (W 20 d))) (uI ρ (16 + e) k (nI d)) := by
  have hv := h.iv
  have hr := bO_r hv hk
  refine h.up (put_iv hv he k (h.dv.2.2.1 d hd)) (put_dv h.dv he hd hne) (put_rx hv h.2.1 he hk) (put_rr hv h.2.2.1 he hk hd h.dv.1.1) (wp_o (by omega) (by omega)) ?_ ?_
  · intro c j h1 h2
    rw [gI_o (by omega), gI_o (by omega)]
  · intro c j hj
    rw [gI_o (by omega)]
theorem pc_change {ids : List Nat} {σ ρ : St} (a1 : Int32) (a2 : Int32) (a3 : Int32) (h : Rel ids σ ρ) : wX11_change ids a1 a2 a3 σ (fun r σ1 => wX12_change a1 a2 a3 ρ (fun r2 ρ1 => r = r2 ∧ Rel ids σ1 ρ1)) := by
  obtain ⟨-, W, h⟩ := h
  have hv := h.iv
  have hc := hv.c
  have hdc := h.dv.1
  have bad : ∀ P : Int32 → St → Prop, P (-2) ρ → (wi a1.toInt 0 ((W 0 4 : Int) - 1) = false ∨ wi a2.toInt 0 1 = false ∨ wi a3.toInt 0 ((W 0 5 : Int) - 1) = false) → wX12_change a1 a2 a3 ρ P := by
    intro P hP c
    refine sR_isBelt hv h.mr a1 (bI_d (fun b => hP) (fun b => ?_))
    refine sR_inI 0 1 rfl rfl (bI_d (fun b2 => hP) (fun b2 => ?_))
    refine sR_isDrum h.dv h.dr a3 (bI_d (fun b3 => hP) (fun b3 => ?_))
    rcases c with c | c | c
    · rw [b] at c; exact absurd c (by decide)
    · rw [b2] at c; exact absurd c (by decide)
    · rw [b3] at c; exact absurd c (by decide)
  refine sX_isBelt hv h.mx a1 (bI_d (fun b => bad _ ⟨rfl, h.rel⟩ (Or.inl b)) (fun b => ?_))
  obtain ⟨k, hk, rfl⟩ := wi_n (by omega) b
  refine sX_within 0 1 rfl rfl (bI_d (fun b2 => bad _ ⟨rfl, h.rel⟩ (Or.inr (Or.inl b2))) (fun b2 => ?_))
  obtain ⟨e, he, rfl⟩ := wi_k (N := 1) b2
  refine sX_isDrum h.dv h.dx a3 (bI_e (fun b3 => bad _ ⟨rfl, h.rel⟩ (Or.inr (Or.inr b3))) (fun b3 => ?_))
  obtain ⟨d, hd, rfl⟩ := wi_n (by omega) b3
  have hdk := h.dv.2.2.2.1 k hk
  obtain ⟨x1, x2⟩ := h.dx.2.2.1 k hk
  obtain ⟨y1, y2⟩ := h.dr.2.2.1 k hk
  refine ⟨vin (by omega) (by omega), bO W k, by rw [nI_clamp (by omega)]; exact (h.mx.b hk).1, h.mx.okB hv hk, ?_⟩
  have rgo : ∀ (P : Int32 → St → Prop), (d = W (19 - e) k → P (-2) ρ) → (¬ d = W (19 - e) k → P (nI (W (18 + e) k)) (uI ρ (16 + e) k (nI d))) → wX12_change (nI k) (nI e) (nI d) ρ P := by
    intro P p1 p2
    refine sR_isBelt hv h.mr _ ?_
    rw [b]
    refine df (by decide) (sR_inI 0 1 rfl rfl ?_)
    rw [b2]
    refine df (by decide) (sR_isDrum h.dv h.dr _ ?_)
    rw [b3]
    refine df (by decide) ?_
    have : e = 0 ∨ e = 1 := by omega
    rcases this with rfl | rfl
    · refine dn rfl ⟨vin (by omega) (by omega), ?_⟩
      rw [nI_clamp (by omega), y2]
      unfold wX12_change_46
      rw [nI_eq (by omega) (by omega)]
      by_cases z : d = W 19 k
      · exact dn z (p1 z)
      · refine dm z (dn rfl ⟨vin (by omega) (by omega), ?_⟩)
        rw [nI_clamp (by omega), y1]
        refine dn rfl ⟨vin (by omega) (by omega), ?_⟩
        rw [nI_clamp (by omega)]
        rintro ρ5 rfl
        exact p2 z
    · refine dm (by decide) ⟨vin (by omega) (by omega), ?_⟩
      rw [nI_clamp (by omega), y1]
      unfold wX12_change_46
      rw [nI_eq (by omega) (by omega)]
      by_cases z : d = W 18 k
      · exact dn z (p1 z)
      · refine dm z (dm (by decide) ⟨vin (by omega) (by omega), ?_⟩)
        rw [nI_clamp (by omega), y2]
        refine dm (by decide) ⟨vin (by omega) (by omega), ?_⟩
        rw [nI_clamp (by omega)]
        rintro ρ5 rfl
        exact p2 z
  have fin : ¬ d = W (19 - e) k → wX6_putDrum ids (bO W k) (nI e) (nI d) σ (fun σ2 => (fun r σ1 => wX12_change (nI k) (nI e) (nI d) ρ (fun r2 ρ1 => r = r2 ∧ Rel ids σ1 ρ1)) (nI (W (18 + e) k)) σ2) := fun z => sX_putDrum hv h.dx hdc.1 he hk hd (rgo _ (fun y => absurd y z) (fun _ => ⟨rfl, (put_rw h he hk hd z).rel⟩))
  have : e = 0 ∨ e = 1 := by omega
  rcases this with rfl | rfl
  · refine dn rfl (dn rfl ?_)
    unfold wX11_change_75
    rw [x1, x2, nI_eq (by omega) (by omega)]
    by_cases z : d = W 19 k
    · exact dn z (rgo _ (fun _ => ⟨rfl, h.rel⟩) (fun y => absurd z y))
    · exact dm z (fin z)
  · refine dm (by decide) (dm (by decide) ?_)
    unfold wX11_change_75
    rw [x1, x2, nI_eq (by omega) (by omega)]
    by_cases z : d = W 18 k
    · exact dn z (rgo _ (fun _ => ⟨rfl, h.rel⟩) (fun y => absurd z y))
    · exact dm z (fin z)
-- a new drum
theorem drum_up {W : Vw} {ids : List Nat} {σ ρ : St} (h : RW W ids σ ρ) (hn : W 0 5 < 12) {z : Nat} (h1 : 1 ≤ z) (h2 : z ≤ 99) : RW (wu (wu W 20 (W 0 5) z) 0 5 (W 0 5 + 1)) ids (uI (uI σ 10 (W 0 5) (nI z)) 1 2 (nI (W 0 5) + 1)) (uI (uI ρ 12 (W 0 5) (nI z)) 0 20 (nI (W 0 5) + 1)) := by
  have hv := h.iv
  have hc := hv.c
  rw [nI_1]
  have w : ∀ x y, ¬ (x = 0 ∧ y = 5) → ¬ (x = 20 ∧ y = W 0 5) → wu (wu W 20 (W 0 5) z) 0 5 (W 0 5 + 1) x y = W x y := fun x y g1 g2 => by rw [wu_o g1, wu_o g2]
  have nX : ∀ c j, ¬ (c = 10 ∧ j = W 0 5) → ¬ (c = 1 ∧ j = 2) → gI (uI (uI σ 10 (W 0 5) (nI z)) 1 2 (nI (W 0 5 + 1))) c j = gI σ c j := fun c j g1 g2 => by rw [gI_o g2, gI_o g1]
  have nR : ∀ c j, ¬ (c = 12 ∧ j = W 0 5) → ¬ (c = 0 ∧ j = 20) → gI (uI (uI ρ 12 (W 0 5) (nI z)) 0 20 (nI (W 0 5 + 1))) c j = gI ρ c j := fun c j g1 g2 => by rw [gI_o g2, gI_o g1]
  have w5 : wu (wu W 20 (W 0 5) z) 0 5 (W 0 5 + 1) 0 5 = W 0 5 + 1 := rfl
  have w20 : wu (wu W 20 (W 0 5) z) 0 5 (W 0 5 + 1) 20 (W 0 5) = z := by rw [wu_o (by omega), wu_s]
  obtain ⟨d1, d2, d3, d4, d5, d6, d7, d8⟩ := h.dv
  obtain ⟨x1, x2, x3, x4⟩ := h.dx
  obtain ⟨y1, y2, y3, y4, y5⟩ := h.dr
  refine h.up (hv.fr ?_) ⟨?_, ?_, ?_, ?_, ?_, ?_, ?_, ?_⟩ (h.2.1.fr (h.mx.fr hv ?_ ?_ (fun _ _ => rfl)) ⟨?_, ?_, ?_, ?_⟩ (h.ix.fr hv ?_ ?_) (h.ts.fr ?_ ?_) (w _ _ (by omega) (by omega)) (w _ _ (by omega) (by omega)) (fun y => w _ _ (by omega) (by omega)) (fun _ _ => rfl)) ⟨⟨?_, ?_, ?_, ?_⟩, ⟨?_, ?_, ?_, ?_, ?_⟩, h.ir.fr ?_ ?_, h.tq.fr ?_ ?_⟩ (w _ _ (by omega) (by omega)) ?_ ?_
  · intro a b hc; exact w _ _ (by unfold cM at hc; omega) (by unfold cM at hc; omega)
  · rw [w5, w _ _ (by omega) (by omega), w _ _ (by omega) (by omega), w _ _ (by omega) (by omega), w _ _ (by omega) (by omega), w _ _ (by omega) (by omega), w _ _ (by omega) (by omega), w _ _ (by omega) (by omega), w _ _ (by omega) (by omega)]
    exact ⟨hn, d1.2⟩
  · rw [w _ _ (by omega) (by omega), w _ _ (by omega) (by omega), w _ _ (by omega) (by omega), w _ _ (by omega) (by omega), w _ _ (by omega) (by omega)]
    exact d2
  · intro d hd
    rw [w5] at hd
    by_cases g : d = W 0 5
    · rw [g, w20]; exact ⟨h1, h2⟩
    · rw [w _ _ (by omega) (by omega)]
      exact d3 d (by omega)
  · intro k hk
    rw [w _ _ (by omega) (by omega)] at hk
    obtain ⟨a1, a2, a3, a4, a5⟩ := d4 k hk
    rw [w5, w 18 k (by omega) (by omega), w 19 k (by omega) (by omega), w 15 k (by omega) (by omega), w 16 k (by omega) (by omega), w 20 (W 18 k) (by omega) (by omega), w 20 (W 19 k) (by omega) (by omega)]
    exact ⟨by omega, by omega, a3, a4, a5⟩
  · intro m hm
    rw [w _ _ (by omega) (by omega)] at hm
    rw [w _ _ (by omega) (by omega)]
    exact d5 m hm
  · intro k hk
    rw [w _ _ (by omega) (by omega)] at hk
    obtain ⟨a1, a2, a3, a4⟩ := d6 k hk
    rw [w5, w 21 k (by omega) (by omega), w 22 k (by omega) (by omega), w 23 k (by omega) (by omega)]
    exact ⟨by omega, by omega, a3, a4⟩
  · intro k hk
    rw [w _ _ (by omega) (by omega)] at hk
    rw [w _ _ (by omega) (by omega), w _ _ (by omega) (by omega)]
    exact d7 k hk
  · intro k hk
    rw [w _ _ (by omega) (by omega)] at hk
    rw [w _ _ (by omega) (by omega)]
    exact d8 k hk
  · intro a b hc; exact w _ _ (by unfold cM at hc; omega) (by unfold cM at hc; omega)
  · intro c k hk; exact nX _ _ (by unfold kM at hk; omega) (by unfold kM at hk; omega)
  · rw [gI_s, w5]
  · intro d hd
    rw [w5] at hd
    by_cases g : d = W 0 5
    · rw [g, w20, gI_o (by omega), gI_s]
    · rw [nX _ _ (by omega) (by omega), w _ _ (by omega) (by omega)]
      exact x2 d (by omega)
  · intro k hk
    rw [w _ _ (by omega) (by omega)] at hk
    have hr := bO_r hv hk
    rw [bO_cg (w _ _ (by omega) (by omega)), nX _ _ (by omega) (by omega), nX _ _ (by omega) (by omega), w _ _ (by omega) (by omega), w _ _ (by omega) (by omega)]
    exact x3 k hk
  · intro s hs
    rw [w _ _ (by omega) (by omega)] at hs
    rw [nX _ _ (by omega) (by omega), w 0 4 (by omega) (by omega), du_cg (fun y => w _ _ (by omega) (by omega))]
    exact x4 s hs
  · intro a b hc; exact w _ _ (by unfold cI at hc; omega) (by unfold cI at hc; omega)
  · intro c k hk; exact nX _ _ (by unfold kI at hk; omega) (by unfold kI at hk; omega)
  · intro a b hc; exact w _ _ (by unfold cT at hc; omega) (by unfold cT at hc; omega)
  · intro c k hk; exact nX _ _ (by unfold kT at hk; omega) (by unfold kT at hk; omega)
  · rw [w _ _ (by omega) (by omega), w _ _ (by omega) (by omega), w _ _ (by omega) (by omega), w _ _ (by omega) (by omega), w _ _ (by omega) (by omega), nR _ _ (by omega) (by omega), nR _ _ (by omega) (by omega), nR _ _ (by omega) (by omega), nR _ _ (by omega) (by omega), nR _ _ (by omega) (by omega)]
    exact h.mr.1
  · intro s hs
    rw [w _ _ (by omega) (by omega)] at hs
    rw [w _ _ (by omega) (by omega), w _ _ (by omega) (by omega), nR _ _ (by omega) (by omega), nR _ _ (by omega) (by omega)]
    exact h.mr.s hs
  · intro m hm
    rw [w _ _ (by omega) (by omega)] at hm
    rw [w 3 m (by omega) (by omega), w 4 m (by omega) (by omega), w 5 m (by omega) (by omega), w 6 m (by omega) (by omega), w 7 m (by omega) (by omega), w 8 m (by omega) (by omega), nR 6 m (by omega) (by omega), nR 8 m (by omega) (by omega), nR 9 m (by omega) (by omega), nR 0 34 (by omega) (by omega), nR 0 35 (by omega) (by omega), nR 7 m (by omega) (by omega), nR 10 m (by omega) (by omega), nR 11 m (by omega) (by omega)]
    exact h.mr.m hm
  · intro k hk
    rw [w _ _ (by omega) (by omega)] at hk
    obtain ⟨r1, r2, r3, r4, r5, ⟨da, e1, e2, e3⟩, r7, r8⟩ := h.mr.b hk
    obtain ⟨a1, a2, a3, a4, a5⟩ := d4 k hk
    rw [w 10 k (by omega) (by omega), w 11 k (by omega) (by omega), w 12 k (by omega) (by omega), w 13 k (by omega) (by omega), w 14 k (by omega) (by omega), w 15 k (by omega) (by omega), w 16 k (by omega) (by omega), nR 13 k (by omega) (by omega), nR 14 k (by omega) (by omega), nR 15 k (by omega) (by omega), nR 18 k (by omega) (by omega), nR 19 k (by omega) (by omega), nR 0 29 (by omega) (by omega), nR 0 30 (by omega) (by omega), nR 16 k (by omega) (by omega), nR 17 k (by omega) (by omega)]
    refine ⟨r1, r2, r3, r4, r5, ⟨W 18 k, by omega, (y3 k hk).1, ?_⟩, fun _ => ⟨W 19 k, by omega, (y3 k hk).2, ?_⟩, r8⟩
    · rw [nR _ _ (by omega) (by omega), y2 _ a1, a4]
    · rw [nR _ _ (by omega) (by omega), y2 _ a2, a5]
  · rw [gI_s, w5]
  · intro d hd
    rw [w5] at hd
    by_cases g : d = W 0 5
    · rw [g, w20, gI_o (by omega), gI_s]
    · rw [nR _ _ (by omega) (by omega), w _ _ (by omega) (by omega)]
      exact y2 d (by omega)
  · intro k hk
    rw [w _ _ (by omega) (by omega)] at hk
    rw [nR _ _ (by omega) (by omega), nR _ _ (by omega) (by omega), w _ _ (by omega) (by omega), w _ _ (by omega) (by omega)]
    exact y3 k hk
  · rw [nR _ _ (by omega) (by omega)]; exact y4
  · rw [nR _ _ (by omega) (by omega)]; exact y5
  · intro a b hc; exact w _ _ (by unfold cI at hc; omega) (by unfold cI at hc; omega)
  · intro c k hk; exact nR _ _ (by unfold qI at hk; omega) (by unfold qI at hk; omega)
  · intro a b hc; exact w _ _ (by unfold cT at hc; omega) (by unfold cT at hc; omega)
  · intro c k hk; exact nR _ _ (by unfold qT at hk; omega) (by unfold qT at hk; omega)
  · intro c k h1 h2; exact nX _ _ (by omega) (by omega)
  · intro c k hk; exact nR _ _ (by omega) (by omega)
/-- drum, whatever follows: the answer is the same on both sides -/
theorem drum_go {W : Vw} {ids : List Nat} {σ ρ : St} (a1 : Int32) (h : RW W ids σ ρ) : ∃ (r : Int32) (σ1 ρ1 : St) (W1 : Vw), RW W1 ids σ1 ρ1 ∧ (∀ c k, 44 ≤ c → c < 52 → gI σ1 c k = gI σ c k) ∧ (∀ c k, (31 ≤ c ∧ c ≤ 34) → gI ρ1 c k = gI ρ c k) ∧ (∀ post, post r σ1 → wX11_drum ids a1 σ post) ∧ ∀ post, post r ρ1 → wX12_drum a1 ρ post := by
  have hdc := h.dv.1
  cases b : wi a1.toInt 1 99
  · refine ⟨-2, σ, ρ, W, h, fun _ _ _ _ => rfl, fun _ _ _ => rfl, fun post hp => ?_, fun post hp => ?_⟩
    · refine sX_within 1 99 rfl rfl ?_
      rw [b]
      exact dn rfl hp
    · refine sR_inI 1 99 rfl rfl ?_
      rw [b]
      exact dn rfl hp
  · obtain ⟨z, h1, h2, rfl⟩ := wi_1 (by decide) b
    have e12 : (nI (W 0 5) = (12 : Int32)) ↔ W 0 5 = 12 := nI_eq (b := 12) (by omega) (by omega)
    by_cases f : W 0 5 = 12
    · refine ⟨-4, σ, ρ, W, h, fun _ _ _ _ => rfl, fun _ _ _ => rfl, fun post hp => ?_, fun post hp => ?_⟩
      · refine sX_within 1 99 rfl rfl ?_
        rw [b, h.dx.1, e12]
        exact dm (by decide) (dn f hp)
      · refine sR_inI 1 99 rfl rfl ?_
        rw [b, h.dr.1, e12]
        exact dm (by decide) (dn f hp)
    · refine ⟨nI (W 0 5), _, _, _, drum_up h (by omega) h1 h2, fun c k g1 g2 => by rw [gI_o (by omega), gI_o (by omega)], fun c k g => by rw [gI_o (by omega), gI_o (by omega)], fun post hp => ?_, fun post hp => ?_⟩
      · refine sX_within 1 99 rfl rfl ?_
        rw [b, h.dx.1, e12]
        refine dm (by decide) (dm f ?_)
        refine ⟨by rw [h.dx.1]; exact vin (by omega) (by omega), ?_⟩
        rw [h.dx.1, nI_clamp (by omega)]
        rintro σ2 rfl
        rw [gI_o (by omega), h.dx.1]
        rintro σ3 rfl
        exact hp
      · refine sR_inI 1 99 rfl rfl ?_
        rw [b, h.dr.1, e12]
        refine dm (by decide) (dm f ⟨vin (by omega) (by omega), ?_⟩)
        rw [nI_clamp (by omega)]
        rintro σ2 rfl
        rw [gI_o (by omega), h.dr.1]
        rintro σ3 rfl
        rw [gI_s, nI_1, nI_pred, ← nI_1]
        exact hp
theorem pc_drum {ids : List Nat} {σ ρ : St} (a1 : Int32) (h : Rel ids σ ρ) : wX11_drum ids a1 σ (fun r σ1 => wX12_drum a1 ρ (fun r2 ρ1 => r = r2 ∧ Rel ids σ1 ρ1)) := by
  obtain ⟨-, W, h⟩ := h
  obtain ⟨r, σ1, ρ1, W1, h1, -, -, h2, h3⟩ := drum_go a1 h
  exact h2 _ (h3 _ ⟨rfl, h1.rel⟩)
