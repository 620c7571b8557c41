/-! PURE: back -/
def wbk (W : Vw) : Vw := fun x y => if x = 0 then (if y = 1 then W 0 9 else if y = 2 then W 0 10 else if y = 13 then W 0 11 else W 0 y) else if y < W 0 7 ∧ (x = 14 ∨ x = 15 ∨ x = 16 ∨ x = 18 ∨ x = 19) then (if x = 14 then W 23 y else if x = 15 then W 20 (W 21 y) else if x = 16 then W 20 (W 22 y) else if x = 18 then W 21 y else W 22 y) else if y < W 0 8 ∧ (x = 4 ∨ x = 8) then (if x = 4 then W 24 y else W 25 y) else W x y
theorem wbk_0 {W : Vw} {y : Nat} (h : ¬ y = 1 ∧ ¬ y = 2 ∧ ¬ y = 13) : wbk W 0 y = W 0 y := by
  unfold wbk
  rw [if_pos rfl, if_neg h.1, if_neg h.2.1, if_neg h.2.2]
theorem wbk_o {W : Vw} {x y : Nat} (h0 : ¬ x = 0) (h1 : ¬ (y < W 0 7 ∧ (x = 14 ∨ x = 15 ∨ x = 16 ∨ x = 18 ∨ x = 19))) (h2 : ¬ (y < W 0 8 ∧ (x = 4 ∨ x = 8))) : wbk W x y = W x y := by
  unfold wbk
  rw [if_neg h0, if_neg h1, if_neg h2]
theorem wbk_b {W : Vw} {x y : Nat} (h : y < W 0 7) (hx : x = 14 ∨ x = 15 ∨ x = 16 ∨ x = 18 ∨ x = 19) : wbk W x y = (if x = 14 then W 23 y else if x = 15 then W 20 (W 21 y) else if x = 16 then W 20 (W 22 y) else if x = 18 then W 21 y else W 22 y) := by
  unfold wbk
  rw [if_neg (by omega), if_pos ⟨h, hx⟩]
theorem wbk_m {W : Vw} {x y : Nat} (h : y < W 0 8) (hx : x = 4 ∨ x = 8) : wbk W x y = (if x = 4 then W 24 y else W 25 y) := by
  unfold wbk
  rw [if_neg (by omega), if_neg (by omega), if_pos ⟨h, hx⟩]
theorem bO_i {W : Vw} (hv : Iv W) {j k : Nat} (hj : j < W 0 4) (hk : k < W 0 4) (e : bO W j = bO W k) : j = k := by
  have := (hv.b hj).1
  have := (hv.b hk).1
  unfold bO at e
  omega
theorem sX_restore {W : Vw} {ids : List Nat} {σ : St} (hv : Iv W) (hd : Dv W) (hM : MX W ids σ) (hD : DX W σ) (hI : IX W σ) {post : St → Prop} (h : ∀ τ, (∀ c j, ¬ (c = 1 ∧ (j = 14 ∨ j = 15)) → ¬ (∃ k, k < W 0 7 ∧ c = bO W k ∧ 4 ≤ j ∧ j ≤ 8) → ¬ (∃ m, m < W 0 8 ∧ c = 60 + m ∧ (j = 3 ∨ j = 5)) → gI τ c j = gI σ c j) → (∀ c k, gR τ c k = gR σ c k) → gI τ 1 14 = nI (W 0 9) → gI τ 1 15 = nI (W 0 10) → (∀ k, k < W 0 7 → gI τ (bO W k) 4 = nI (W 21 k) ∧ gI τ (bO W k) 5 = nI (W 22 k) ∧ gI τ (bO W k) 6 = nI (W 20 (W 21 k)) ∧ gI τ (bO W k) 7 = nI (W 20 (W 22 k)) ∧ gI τ (bO W k) 8 = nI (W 23 k)) → (∀ m, m < W 0 8 → gI τ (60 + m) 3 = nI (W 24 m) ∧ gI τ (60 + m) 5 = nI (W 25 m)) → post τ) : wX6_restore ids σ post := by
  have hc := hv.c
  have hdc := hd.1
  rintro s1 rfl s2 rfl
  rw [hI.1.2.2.1, gI_o (by omega), hI.1.2.2.2]
  have nk : ∀ k, k < W 0 7 → k < W 0 4 := fun k hk => by omega
  refine lpc1 (wX6_restore_18 ids post) (W 0 4) (by omega) (fun i τ => (∀ c j, ¬ (c = 1 ∧ (j = 14 ∨ j = 15)) → ¬ (∃ k, k < i ∧ k < W 0 7 ∧ c = bO W k ∧ 4 ≤ j ∧ j ≤ 8) → gI τ c j = gI σ c j) ∧ (∀ c k, gR τ c k = gR σ c k) ∧ gI τ 1 14 = nI (W 0 9) ∧ gI τ 1 15 = nI (W 0 10) ∧ (∀ k, k < i → k < W 0 7 → gI τ (bO W k) 4 = nI (W 21 k) ∧ gI τ (bO W k) 5 = nI (W 22 k) ∧ gI τ (bO W k) 6 = nI (W 20 (W 21 k)) ∧ gI τ (bO W k) 7 = nI (W 20 (W 22 k)) ∧ gI τ (bO W k) 8 = nI (W 23 k))) ?_ ?_ _ ⟨fun c j h1 h2 => ?_, fun _ _ => rfl, ?_, ?_, fun k hk => absurd hk (Nat.not_lt_zero _)⟩
  · rintro n τ ⟨t1, t2, t3, t4, t5⟩
    rw [wX6_restore_18_s]
    have tl : ∀ c j, c < 72 → ¬ (c = 1 ∧ (j = 14 ∨ j = 15)) → gI τ c j = gI σ c j := fun c j h1 h2 => t1 c j h2 (fun ⟨k, g1, g2, g3, g4⟩ => by have := bO_r hv (nk k g2); omega)
    refine dt (by rw [tl _ _ (by omega) (by omega), hM.bs]; exact nI_le (Nat.le_refl _) (by omega)) ?_
    refine lpc1 (wX6_restore_44 ids post) (W 0 3) (by omega) (fun i υ => (∀ c j, ¬ (∃ m, m < i ∧ m < W 0 8 ∧ c = 60 + m ∧ (j = 3 ∨ j = 5)) → gI υ c j = gI τ c j) ∧ (∀ c k, gR υ c k = gR σ c k) ∧ (∀ m, m < i → m < W 0 8 → gI υ (60 + m) 3 = nI (W 24 m) ∧ gI υ (60 + m) 5 = nI (W 25 m))) ?_ ?_ τ ⟨fun _ _ _ => rfl, t2, fun m hm => absurd hm (Nat.not_lt_zero _)⟩
    · rintro n υ ⟨u1, u2, u3⟩
      rw [wX6_restore_44_s]
      have ul : ∀ c j, ¬ (60 ≤ c ∧ c < 70) → gI υ c j = gI τ c j := fun c j h1 => u1 c j (fun ⟨m, g1, g2, g3, g4⟩ => by omega)
      refine dt (by rw [ul _ _ (by omega), tl _ _ (by omega) (by omega), hM.ms]; exact nI_le (Nat.le_refl _) (by omega)) ?_
      refine h υ (fun c j h1 h2 h3 => ?_) u2 (by rw [ul _ _ (by omega)]; exact t3) (by rw [ul _ _ (by omega)]; exact t4) (fun k hk => ?_) (fun m hm => u3 m (by omega) hm)
      · rw [u1 c j (fun ⟨m, g1, g2, g3⟩ => h3 ⟨m, g2, g3⟩), t1 c j h1 (fun ⟨k, g1, g2, g3⟩ => h2 ⟨k, g2, g3⟩)]
      · have hr := bO_r hv (nk k hk)
        rw [ul _ _ (by omega), ul _ _ (by omega), ul _ _ (by omega), ul _ _ (by omega), ul _ _ (by omega)]
        exact t5 k (nk k hk) hk
    · rintro n i υ hi ⟨u1, u2, u3⟩ kk
      rw [wX6_restore_44_s]
      have ul : ∀ c j, ¬ (60 ≤ c ∧ c < 70) → gI υ c j = gI τ c j := fun c j h1 => u1 c j (fun ⟨m, g1, g2, g3, g4⟩ => by omega)
      have um : ∀ j, gI υ (60 + i) j = gI σ (60 + i) j := fun j => by
        rw [u1 _ _ (fun ⟨m, g1, g2, g3, g4⟩ => by omega), tl _ _ (by omega) (by omega)]
      obtain ⟨x1, x2, x3, x4, x5, x6, x7, x8⟩ := hM.m hi
      obtain ⟨y1, y2⟩ := hI.2.1 i hi
      refine df (by rw [ul _ _ (by omega), tl _ _ (by omega) (by omega), hM.ms]; exact nI_ge hi (by omega)) ⟨vin (by omega) (by omega), 60 + i, by rw [nI_clamp (by omega), u2]; exact x1, hM.okM hv hi, ?_⟩
      unfold wX5_restore
      rw [um, um, y1]
      by_cases k8 : i < W 0 8
      · obtain ⟨y3, y4⟩ := y2 k8
        rw [if_pos k8, y3]
        refine df (by decide) ⟨isB_n (hd.2.2.2.2.2.2.1 i k8).2, ?_⟩
        rintro s1 rfl
        rw [gI_o (by omega), um, y4]
        rintro s2 rfl v rfl
        rw [nI_1]
        refine kk _ ⟨fun c j hj => ?_, u2, fun m hm1 hm2 => ?_⟩
        · rw [gI_o (fun z => hj ⟨i, by omega, k8, by omega, by omega⟩), gI_o (fun z => hj ⟨i, by omega, k8, by omega, by omega⟩)]
          exact u1 c j (fun ⟨m, g1, g2⟩ => hj ⟨m, by omega, g2⟩)
        · by_cases e : m = i
          · subst e
            rw [gI_s, gI_o (by omega), gI_s]
            exact ⟨rfl, rfl⟩
          · rw [gI_o (by omega), gI_o (by omega), gI_o (by omega), gI_o (by omega)]
            exact u3 m (by omega) hm2
      · rw [if_neg k8]
        refine dt rfl ?_
        rintro v rfl
        rw [nI_1]
        refine kk _ ⟨fun c j hj => u1 c j (fun ⟨m, g1, g2⟩ => hj ⟨m, by omega, g2⟩), u2, fun m hm1 hm2 => u3 m (by omega) hm2⟩
  · rintro n i τ hi ⟨t1, t2, t3, t4, t5⟩ kk
    rw [wX6_restore_18_s]
    have tl : ∀ c j, c < 72 → ¬ (c = 1 ∧ (j = 14 ∨ j = 15)) → gI τ c j = gI σ c j := fun c j h1 h2 => t1 c j h2 (fun ⟨k, g1, g2, g3, g4⟩ => by have := bO_r hv (nk k g2); omega)
    have hr := bO_r hv hi
    have tb : ∀ j, gI τ (bO W i) j = gI σ (bO W i) j := fun j => t1 _ _ (by omega) (fun ⟨k, g1, g2, g3, g4⟩ => by have := bO_i hv hi (nk k g2) g3; omega)
    obtain ⟨x1, x2, x3, x4, x5, x6, x7, x8, x9⟩ := hM.b hi
    obtain ⟨y1, y2⟩ := hI.2.2 i hi
    refine df (by rw [tl _ _ (by omega) (by omega), hM.bs]; exact nI_ge hi (by omega)) ⟨vin (by omega) (by omega), bO W i, by rw [nI_clamp (by omega), t2]; exact x1, hM.okB hv hi, ?_⟩
    unfold wX6_restoreBelt
    rw [tb, tb, y1]
    by_cases k7 : i < W 0 7
    · obtain ⟨y3, y4, y5⟩ := y2 k7
      obtain ⟨a1, a2, a3, a4⟩ := hd.2.2.2.2.2.1 i k7
      rw [if_pos k7, y4]
      refine df (by decide) (dn rfl ?_)
      rintro s1 rfl
      refine ⟨vin (by omega) (by omega), ?_⟩
      rw [nI_clamp (by omega), gI_o (by omega), tl 10 _ (by omega) (by omega), hD.2.1 _ a1]
      rintro s2 rfl
      simp only [wX6_putDrum_37]
      rw [gI_o (by omega), gI_o (by omega), tb, y5]
      refine dm (by decide) ?_
      rintro s3 rfl
      refine ⟨vin (by omega) (by omega), ?_⟩
      rw [nI_clamp (by omega), gI_o (by omega), gI_o (by omega), gI_o (by omega), tl 10 _ (by omega) (by omega), hD.2.1 _ a2]
      rintro s4 rfl
      simp only [wX6_putDrum_37]
      rw [gI_o (by omega), gI_o (by omega), gI_o (by omega), gI_o (by omega), tb, y3]
      refine ⟨isB_n a4, ?_⟩
      rintro s5 rfl v rfl
      rw [nI_1]
      have n5 : ∀ c j, ¬ (c = bO W i ∧ 4 ≤ j ∧ j ≤ 8) → gI (uI (uI (uI (uI (uI τ (bO W i) 4 (nI (W 21 i))) (bO W i) 6 (nI (W 20 (W 21 i)))) (bO W i) 5 (nI (W 22 i))) (bO W i) 7 (nI (W 20 (W 22 i)))) (bO W i) 8 (nI (W 23 i))) c j = gI τ c j := fun c j hj => by rw [gI_o (by omega), gI_o (by omega), gI_o (by omega), gI_o (by omega), gI_o (by omega)]
      refine kk _ ⟨fun c j h1 h2 => ?_, t2, ?_, ?_, fun k hk1 hk2 => ?_⟩
      · rw [n5 _ _ (fun z => h2 ⟨i, by omega, k7, z.1, z.2⟩)]
        exact t1 c j h1 (fun ⟨k, g1, g2⟩ => h2 ⟨k, by omega, g2⟩)
      · rw [n5 _ _ (by omega)]; exact t3
      · rw [n5 _ _ (by omega)]; exact t4
      · by_cases e : k = i
        · subst e
          rw [gI_o (by omega), gI_o (by omega), gI_o (by omega), gI_o (by omega), gI_s, gI_o (by omega), gI_o (by omega), gI_s, gI_o (by omega), gI_o (by omega), gI_o (by omega), gI_s, gI_o (by omega), gI_s, gI_s]
          exact ⟨rfl, rfl, rfl, rfl, rfl⟩
        · have nb : ¬ bO W k = bO W i := fun z => e (bO_i hv (nk k hk2) hi z)
          rw [n5 _ _ (by omega), n5 _ _ (by omega), n5 _ _ (by omega), n5 _ _ (by omega), n5 _ _ (by omega)]
          exact t5 k (by omega) hk2
    · rw [if_neg k7]
      refine dt rfl ?_
      rintro v rfl
      rw [nI_1]
      exact kk _ ⟨fun c j h1 h2 => t1 c j h1 (fun ⟨k, g1, g2⟩ => h2 ⟨k, by omega, g2⟩), t2, t3, t4, fun k hk1 hk2 => t5 k (by omega) hk2⟩
  · rw [gI_o (by omega), gI_o (by omega)]
  · rw [gI_o (by omega), gI_s]
  · rw [gI_s]
theorem back_iv {W : Vw} (hv : Iv W) (hd : Dv W) (h6 : W 0 6 = 1) : Iv (wbk W) ∧ Dv (wbk W) := by
  have hc := hv.c
  obtain ⟨i1, i2, i3, i4, i5, i6, i7, i8⟩ := hv
  obtain ⟨d1, d2, d3, d4, d5, d6, d7, d8⟩ := hd
  have hk := d2 h6
  have w0 : ∀ y, ¬ y = 1 ∧ ¬ y = 2 ∧ ¬ y = 13 → wbk W 0 y = W 0 y := fun y hy => wbk_0 hy
  have wf : ∀ x, ¬ x = 0 → ¬ (x = 14 ∨ x = 15 ∨ x = 16 ∨ x = 18 ∨ x = 19) → ¬ (x = 4 ∨ x = 8) → ∀ y, wbk W x y = W x y := fun x h0 h1 h2 y => wbk_o h0 (fun z => h1 z.2) (fun z => h2 z.2)
  refine ⟨⟨?_, ?_, ?_, ?_, ?_, ?_, ?_, ?_⟩, ⟨?_, ?_, ?_, ?_, ?_, ?_, ?_, ?_⟩⟩
  · rw [w0 0 (by omega), w0 3 (by omega), w0 4 (by omega)]
    exact ⟨i1.1, hk.2.1, hk.1, hk.2.2.1, i1.2.2.2.2⟩
  · intro s hs
    rw [w0 0 (by omega)] at hs
    rw [wf 1 (by omega) (by omega) (by omega), wf 2 (by omega) (by omega) (by omega)]
    exact i2 s hs
  · intro m hm
    rw [w0 3 (by omega)] at hm
    obtain ⟨a1, a2, a3, a4, a5, a6⟩ := i3 m hm
    rw [w0 0 (by omega), wf 3 (by omega) (by omega) (by omega), wf 5 (by omega) (by omega) (by omega), wf 6 (by omega) (by omega) (by omega), wf 7 (by omega) (by omega) (by omega)]
    by_cases g : m < W 0 8
    · have q := d7 m g
      rw [wbk_m g (Or.inl rfl), wbk_m g (Or.inr rfl)]
      exact ⟨a1, Nat.le_trans q.1 (by decide), a3, a4, a5, q.2⟩
    · rw [wbk_o (x := 4) (by omega) (by omega) (by omega), wbk_o (x := 8) (by omega) (by omega) (by omega)]
      exact ⟨a1, a2, a3, a4, a5, a6⟩
  · intro k hk2
    rw [w0 4 (by omega)] at hk2
    obtain ⟨b1, b2, b3, b4, b5, b6, b7, b8, b9, b10, b11⟩ := i4 k hk2
    rw [w0 0 (by omega), wf 10 (by omega) (by omega) (by omega), wf 11 (by omega) (by omega) (by omega), wf 12 (by omega) (by omega) (by omega), wf 13 (by omega) (by omega) (by omega)]
    by_cases g : k < W 0 7
    · obtain ⟨q1, q2, q3, q4⟩ := d6 k g
      rw [wbk_b g (by omega), wbk_b g (by omega), wbk_b g (by omega)]
      exact ⟨b1, b2, b3, b4, b5, b6, q4, (d3 _ q1).1, (d3 _ q1).2, (d3 _ q2).1, (d3 _ q2).2⟩
    · rw [wbk_o (x := 14) (by omega) (by omega) (by omega), wbk_o (x := 15) (by omega) (by omega) (by omega), wbk_o (x := 16) (by omega) (by omega) (by omega)]
      exact ⟨b1, b2, b3, b4, b5, b6, b7, b8, b9, b10, b11⟩
  · intro j k hj hk2
    rw [w0 4 (by omega)] at hj hk2
    rw [wf 12 (by omega) (by omega) (by omega), wf 12 (by omega) (by omega) (by omega)]
    exact i5 j k hj hk2
  · intro i hi
    rw [w0 4 (by omega)] at hi
    rw [w0 4 (by omega), wf 17 (by omega) (by omega) (by omega)]
    exact i6 i hi
  · intro k hk2
    rw [w0 4 (by omega)] at hk2
    obtain ⟨i, hi, e⟩ := i7 k hk2
    exact ⟨i, by rw [w0 4 (by omega)]; exact hi, by rw [wf 17 (by omega) (by omega) (by omega)]; exact e⟩
  · intro i j hi hj e
    rw [w0 4 (by omega)] at hi hj
    rw [wf 12 (by omega) (by omega) (by omega), wf 17 (by omega) (by omega) (by omega), wf 11 (by omega) (by omega) (by omega)] at e
    obtain ⟨i', hi', e'⟩ := i8 i j hi hj e
    exact ⟨i', hi', by rw [wf 17 (by omega) (by omega) (by omega)]; exact e'⟩
  · rw [w0 5 (by omega), w0 6 (by omega), w0 7 (by omega), w0 4 (by omega), w0 8 (by omega), w0 3 (by omega), w0 12 (by omega), w0 14 (by omega)]
    exact ⟨d1.1, d1.2.1, d1.2.2.1, d1.2.2.2.1, d1.2.2.2.2.1, d1.2.2.2.2.2.1, hk.2.2.2, d1.2.2.2.2.2.2.2⟩
  · rw [w0 6 (by omega), w0 9 (by omega), w0 10 (by omega), w0 11 (by omega), w0 12 (by omega)]
    exact d2
  · intro d hd
    rw [w0 5 (by omega)] at hd
    rw [wf 20 (by omega) (by omega) (by omega)]
    exact d3 d hd
  · intro k hk2
    rw [w0 4 (by omega)] at hk2
    rw [w0 5 (by omega), wf 20 (by omega) (by omega) (by omega), wf 20 (by omega) (by omega) (by omega)]
    by_cases g : k < W 0 7
    · obtain ⟨q1, q2, q3, q4⟩ := d6 k g
      rw [wbk_b g (by omega), wbk_b g (by omega), wbk_b g (by omega), wbk_b g (by omega)]
      exact ⟨q1, q2, q3, rfl, rfl⟩
    · rw [wbk_o (x := 18) (by omega) (by omega) (by omega), wbk_o (x := 19) (by omega) (by omega) (by omega), wbk_o (x := 15) (by omega) (by omega) (by omega), wbk_o (x := 16) (by omega) (by omega) (by omega)]
      exact d4 k hk2
  · intro m hm
    rw [w0 3 (by omega)] at hm
    by_cases g : m < W 0 8
    · rw [wbk_m g (Or.inl rfl)]
      exact (d7 m g).1
    · rw [wbk_o (x := 4) (by omega) (by omega) (by omega)]
      exact d5 m hm
  · intro k hk2
    rw [w0 7 (by omega)] at hk2
    rw [w0 5 (by omega), wf 21 (by omega) (by omega) (by omega), wf 22 (by omega) (by omega) (by omega), wf 23 (by omega) (by omega) (by omega)]
    exact d6 k hk2
  · intro m hm
    rw [w0 8 (by omega)] at hm
    rw [wf 24 (by omega) (by omega) (by omega), wf 25 (by omega) (by omega) (by omega)]
    exact d7 m hm
  · intro i hi
    rw [w0 14 (by omega)] at hi
    rw [wf 26 (by omega) (by omega) (by omega)]
    exact d8 i hi
theorem sR_back {W : Vw} {ρ : St} (hv : Iv W) (hd : Dv W) (hR : RR W ρ) {post : Int32 → St → Prop} (h0 : W 0 6 = 0 → post (-3) ρ) (h : W 0 6 = 1 → ∀ τ, RR (wbk W) τ → (∀ c k, (c = 1 ∨ c = 2 ∨ (31 ≤ c ∧ c ≤ 34)) → gI τ c k = gI ρ c k) → post (nI (W 0 4)) τ) : wX12_back ρ post := by
  have hc := hv.c
  have hdc := hd.1
  obtain ⟨hM, hD, hI, hT⟩ := hR
  obtain ⟨⟨j1, j2, j3, j4, j5, j6⟩, j7, j8⟩ := hI
  unfold wX12_back
  rw [j1]
  have : W 0 6 = 0 ∨ W 0 6 = 1 := by omega
  rcases this with e | e
  · rw [e]
    exact dn rfl (h0 e)
  rw [e]
  refine dm (by decide) ?_
  rintro s1 rfl
  rw [gI_o (by omega), j4, j5]
  rintro s2 rfl
  rw [gI_o (by omega), gI_o (by omega), j6]
  rintro s3 rfl
  have w0 : ∀ y, ¬ y = 1 ∧ ¬ y = 2 ∧ ¬ y = 13 → wbk W 0 y = W 0 y := fun y hy => wbk_0 hy
  have wf : ∀ x, ¬ x = 0 → ¬ (x = 14 ∨ x = 15 ∨ x = 16 ∨ x = 18 ∨ x = 19) → ¬ (x = 4 ∨ x = 8) → ∀ y, wbk W x y = W x y := fun x h0 h1 h2 y => wbk_o h0 (fun z => h1 z.2) (fun z => h2 z.2)
  refine lpc1 (wX12_back_36 post) (W 0 7) (by omega) (fun i τ => (∀ c k, ¬ (c = 0 ∧ (k = 10 ∨ k = 11 ∨ k = 4)) → ¬ (k < i ∧ (c = 16 ∨ c = 17 ∨ c = 19)) → gI τ c k = gI ρ c k) ∧ (gI τ 0 10 = nI (W 0 9) ∧ gI τ 0 11 = nI (W 0 10) ∧ gI τ 0 4 = nI (W 0 11)) ∧ (∀ k, k < i → gI τ 16 k = nI (W 21 k) ∧ gI τ 17 k = nI (W 22 k) ∧ gI τ 19 k = nI (W 23 k))) ?_ ?_ _ ⟨fun c k h1 h2 => ?_, ⟨?_, ?_, ?_⟩, fun k hk => absurd hk (Nat.not_lt_zero _)⟩
  · rintro n τ ⟨t1, t2, t3⟩
    rw [wX12_back_36_s]
    refine dt (by rw [t1 _ _ (by omega) (by omega), j2]; exact nI_le (Nat.le_refl _) (by omega)) ?_
    refine lpc1 (wX12_back_88 post) (W 0 8) (by omega) (fun i υ => (∀ c k, ¬ (k < i ∧ (c = 7 ∨ c = 11)) → gI υ c k = gI τ c k) ∧ (∀ m, m < i → gI υ 7 m = nI (W 24 m) ∧ gI υ 11 m = nI (W 25 m))) ?_ ?_ τ ⟨fun _ _ _ => rfl, fun m hm => absurd hm (Nat.not_lt_zero _)⟩
    · rintro n υ ⟨u1, u2⟩
      rw [wX12_back_88_s]
      have a1 : ∀ c k, ¬ (c = 0 ∧ (k = 10 ∨ k = 11 ∨ k = 4)) → ¬ (k < W 0 7 ∧ (c = 16 ∨ c = 17 ∨ c = 19)) → ¬ (k < W 0 8 ∧ (c = 7 ∨ c = 11)) → gI υ c k = gI ρ c k := fun c k h1 h2 h3 => by rw [u1 c k h3, t1 c k h1 h2]
      refine dt (by rw [a1 _ _ (by omega) (by omega) (by omega), j3]; exact nI_le (Nat.le_refl _) (by omega)) ?_
      rw [a1 _ _ (by omega) (by omega) (by omega), hM.bs]
      refine h e υ ⟨⟨?_, ?_, ?_, ?_⟩, ⟨?_, ?_, ?_, ?_, ?_⟩, ⟨?_, ?_, ?_⟩, ⟨?_, ?_, ?_, ?_⟩⟩ (fun c k hk => a1 _ _ (by omega) (by omega) (by omega))
      · rw [w0 0 (by omega), w0 3 (by omega), w0 4 (by omega), a1 _ _ (by omega) (by omega) (by omega), a1 _ _ (by omega) (by omega) (by omega), a1 _ _ (by omega) (by omega) (by omega), u1 _ _ (by omega), u1 _ _ (by omega)]
        exact ⟨hM.1.1, hM.1.2.1, hM.1.2.2.1, t2.1, t2.2.1⟩
      · intro s hs
        rw [w0 0 (by omega)] at hs
        rw [wf 1 (by omega) (by omega) (by omega), wf 2 (by omega) (by omega) (by omega), a1 _ _ (by omega) (by omega) (by omega), a1 _ _ (by omega) (by omega) (by omega)]
        exact hM.s hs
      · intro m hm
        rw [w0 3 (by omega)] at hm
        obtain ⟨m1, m2, m3, ⟨m4, m4'⟩, m5, m6⟩ := hM.m hm
        have ne : ¬ nI m = gI ρ 0 34 := by rw [hD.2.2.2.2]; exact ne_m1 (by omega)
        rw [wf 3 (by omega) (by omega) (by omega), wf 5 (by omega) (by omega) (by omega), wf 6 (by omega) (by omega) (by omega), wf 7 (by omega) (by omega) (by omega), a1 6 _ (by omega) (by omega) (by omega), a1 8 _ (by omega) (by omega) (by omega), a1 9 _ (by omega) (by omega) (by omega), a1 10 _ (by omega) (by omega) (by omega), a1 0 34 (by omega) (by omega) (by omega)]
        by_cases g : m < W 0 8
        · obtain ⟨q1, q2⟩ := u2 m g
          rw [wbk_m g (Or.inl rfl), wbk_m g (Or.inr rfl)]
          exact ⟨m1, m2, m3, ⟨fun _ => q1, fun z => absurd z ne⟩, m5, q2⟩
        · rw [wbk_o (x := 4) (by omega) (by omega) (by omega), wbk_o (x := 8) (by omega) (by omega) (by omega), a1 7 _ (by omega) (by omega) (by omega), a1 11 _ (by omega) (by omega) (by omega)]
          exact ⟨m1, m2, m3, ⟨fun _ => m4 ne, fun z => absurd z ne⟩, m5, m6⟩
      · intro k hk
        rw [w0 4 (by omega)] at hk
        obtain ⟨r1, r2, r3, r4, r5, r6, r7, r8⟩ := hM.b hk
        have ne : ¬ nI k = gI ρ 0 29 := by rw [hD.2.2.2.1]; exact ne_m1 (by omega)
        rw [wf 10 (by omega) (by omega) (by omega), wf 11 (by omega) (by omega) (by omega), wf 12 (by omega) (by omega) (by omega), wf 13 (by omega) (by omega) (by omega), a1 13 _ (by omega) (by omega) (by omega), a1 14 _ (by omega) (by omega) (by omega), a1 15 _ (by omega) (by omega) (by omega), a1 18 _ (by omega) (by omega) (by omega), a1 0 29 (by omega) (by omega) (by omega)]
        have n12 : ∀ x, gI υ 12 x = gI ρ 12 x := fun x => a1 _ _ (by omega) (by omega) (by omega)
        simp only [n12]
        by_cases g : k < W 0 7
        · obtain ⟨q1, q2, q3⟩ := t3 k g
          obtain ⟨a1', a2', a3', a4'⟩ := hd.2.2.2.2.2.1 k g
          rw [wbk_b g (by omega), wbk_b g (by omega), wbk_b g (by omega), u1 16 _ (by omega), u1 17 _ (by omega), u1 19 _ (by omega)]
          exact ⟨r1, r2, r3, r4, q3, ⟨W 21 k, by omega, q1, hD.2.1 _ a1'⟩, fun _ => ⟨W 22 k, by omega, q2, hD.2.1 _ a2'⟩, fun z => absurd z ne⟩
        · rw [wbk_o (x := 14) (by omega) (by omega) (by omega), wbk_o (x := 15) (by omega) (by omega) (by omega), wbk_o (x := 16) (by omega) (by omega) (by omega), a1 16 _ (by omega) (by omega) (by omega), a1 17 _ (by omega) (by omega) (by omega), a1 19 _ (by omega) (by omega) (by omega)]
          exact ⟨r1, r2, r3, r4, r5, r6, fun _ => r7 ne, fun z => absurd z ne⟩
      · rw [w0 5 (by omega), a1 _ _ (by omega) (by omega) (by omega)]; exact hD.1
      · intro d hd'
        rw [w0 5 (by omega)] at hd'
        rw [wf 20 (by omega) (by omega) (by omega), a1 _ _ (by omega) (by omega) (by omega)]
        exact hD.2.1 d hd'
      · intro k hk
        rw [w0 4 (by omega)] at hk
        by_cases g : k < W 0 7
        · obtain ⟨q1, q2, q3⟩ := t3 k g
          rw [wbk_b g (by omega), wbk_b g (by omega), u1 16 _ (by omega), u1 17 _ (by omega)]
          exact ⟨q1, q2⟩
        · rw [wbk_o (x := 18) (by omega) (by omega) (by omega), wbk_o (x := 19) (by omega) (by omega) (by omega), a1 16 _ (by omega) (by omega) (by omega), a1 17 _ (by omega) (by omega) (by omega)]
          exact hD.2.2.1 k hk
      · rw [a1 _ _ (by omega) (by omega) (by omega)]; exact hD.2.2.2.1
      · rw [a1 _ _ (by omega) (by omega) (by omega)]; exact hD.2.2.2.2
      · rw [w0 6 (by omega), w0 7 (by omega), w0 8 (by omega), w0 9 (by omega), w0 10 (by omega), w0 11 (by omega), a1 _ _ (by omega) (by omega) (by omega), a1 _ _ (by omega) (by omega) (by omega), a1 _ _ (by omega) (by omega) (by omega), a1 _ _ (by omega) (by omega) (by omega), a1 _ _ (by omega) (by omega) (by omega), a1 _ _ (by omega) (by omega) (by omega)]
        exact ⟨j1, j2, j3, j4, j5, j6⟩
      · intro m hm
        rw [w0 8 (by omega)] at hm
        rw [wf 24 (by omega) (by omega) (by omega), wf 25 (by omega) (by omega) (by omega), a1 _ _ (by omega) (by omega) (by omega), a1 _ _ (by omega) (by omega) (by omega)]
        exact j7 m hm
      · intro k hk
        rw [w0 7 (by omega)] at hk
        rw [wf 21 (by omega) (by omega) (by omega), wf 22 (by omega) (by omega) (by omega), wf 23 (by omega) (by omega) (by omega), a1 _ _ (by omega) (by omega) (by omega), a1 _ _ (by omega) (by omega) (by omega), a1 _ _ (by omega) (by omega) (by omega)]
        exact j8 k hk
      · rw [w0 12 (by omega), a1 _ _ (by omega) (by omega) (by omega)]; exact hT.1
      · rw [u1 _ _ (by omega)]; exact t2.2.2
      · rw [w0 14 (by omega), a1 _ _ (by omega) (by omega) (by omega)]; exact hT.2.2.1
      · intro i hi
        rw [w0 14 (by omega)] at hi
        rw [wf 26 (by omega) (by omega) (by omega), a1 _ _ (by omega) (by omega) (by omega)]
        exact hT.2.2.2 i hi
    · rintro n i υ hi ⟨u1, u2⟩ kk
      rw [wX12_back_88_s]
      have a1 : ∀ c k, ¬ (c = 0 ∧ (k = 10 ∨ k = 11 ∨ k = 4)) → ¬ (k < W 0 7 ∧ (c = 16 ∨ c = 17 ∨ c = 19)) → ¬ (k < i ∧ (c = 7 ∨ c = 11)) → gI υ c k = gI ρ c k := fun c k h1 h2 h3 => by rw [u1 c k h3, t1 c k h1 h2]
      obtain ⟨m1, m2⟩ := j7 i hi
      refine df (by rw [a1 _ _ (by omega) (by omega) (by omega), j3]; exact nI_ge hi (by omega)) ⟨vin (by omega) (by omega), ?_⟩
      rw [nI_clamp (by omega), a1 _ _ (by omega) (by omega) (by omega), m1]
      rintro s4 rfl
      rw [gI_o (by omega), a1 _ _ (by omega) (by omega) (by omega), m2]
      rintro s7 rfl v rfl
      rw [nI_1]
      refine kk _ ⟨fun c k hk => by rw [gI_o (by omega), gI_o (by omega)]; exact u1 c k (by omega), fun m hm => ?_⟩
      by_cases e : m = i
      · subst e
        rw [gI_o (by omega), gI_s, gI_s]
        exact ⟨rfl, rfl⟩
      · rw [gI_o (by omega), gI_o (by omega), gI_o (by omega), gI_o (by omega)]
        exact u2 m (by omega)
  · rintro n i τ hi ⟨t1, t2, t3⟩ kk
    rw [wX12_back_36_s]
    obtain ⟨m1, m2, m3⟩ := j8 i hi
    refine df (by rw [t1 _ _ (by omega) (by omega), j2]; exact nI_ge hi (by omega)) ⟨vin (by omega) (by omega), ?_⟩
    rw [nI_clamp (by omega), t1 _ _ (by omega) (by omega), m1]
    rintro s1 rfl
    rw [gI_o (by omega), t1 _ _ (by omega) (by omega), m2]
    rintro s2 rfl
    rw [gI_o (by omega), gI_o (by omega), t1 _ _ (by omega) (by omega), m3]
    rintro s3 rfl v rfl
    rw [nI_1]
    refine kk _ ⟨fun c k h1 h2 => ?_, ?_, fun k hk => ?_⟩
    · rw [gI_o (by omega), gI_o (by omega), gI_o (by omega)]
      exact t1 c k h1 (by omega)
    · rw [gI_o (by omega), gI_o (by omega), gI_o (by omega), gI_o (by omega), gI_o (by omega), gI_o (by omega), gI_o (by omega), gI_o (by omega), gI_o (by omega)]
      exact t2
    · by_cases e : k = i
      · subst e
        rw [gI_o (by omega), gI_o (by omega), gI_s, gI_o (by omega), gI_s, gI_s]
        exact ⟨rfl, rfl, rfl⟩
      · rw [gI_o (by omega), gI_o (by omega), gI_o (by omega), gI_o (by omega), gI_o (by omega), gI_o (by omega), gI_o (by omega), gI_o (by omega), gI_o (by omega)]
        exact t3 k (by omega)
  · rw [gI_o (by omega), gI_o (by omega), gI_o (by omega)]
  · rw [gI_o (by omega), gI_o (by omega), gI_s]
  · rw [gI_o (by omega), gI_s]
  · rw [gI_s]
theorem pc_back {ids : List Nat} {σ ρ : St} (h : Rel ids σ ρ) : wX11_back ids σ (fun r σ1 => wX12_back ρ (fun r2 ρ1 => r = r2 ∧ Rel ids σ1 ρ1)) := by
  obtain ⟨-, W, h⟩ := h
  have hv := h.iv
  have hc := hv.c
  have hdc := h.dv.1
  unfold wX11_back
  rw [h.ix.1.1]
  have : W 0 6 = 0 ∨ W 0 6 = 1 := by omega
  rcases this with e | e
  · rw [e]
    exact dn rfl (sR_back hv h.dv h.2.2.1 (fun _ => ⟨rfl, h.rel⟩) (fun z => by omega))
  rw [e]
  refine dm (by decide) (sX_restore hv h.dv h.mx h.dx h.ix (fun τ t1 t2 t3 t4 t5 t6 => ?_))
  have nk : ∀ k, k < W 0 7 → k < W 0 4 := fun k hk => by omega
  have tl : ∀ c j, c < 60 → ¬ (c = 1 ∧ (j = 14 ∨ j = 15)) → gI τ c j = gI σ c j := fun c j h1 h2 => t1 c j h2 (fun ⟨k, g1, g2, g3⟩ => by have := bO_r hv (nk k g1); omega) (fun ⟨m, g1, g2, g3⟩ => by omega)
  rintro s1 rfl
  rw [tl 0 12 (by omega) (by omega), h.ix.1.2.1]
  have sl : ∀ c j, c < 60 → ¬ (c = 1 ∧ (j = 14 ∨ j = 15)) → ¬ (c = 0 ∧ j = 4) → gI (uI τ 0 4 (nI (W 0 11))) c j = gI σ c j := fun c j h1 h2 h3 => by rw [gI_o (by omega)]; exact tl c j h1 h2
  have sm : ∀ m j, m < W 0 3 → ¬ (m < W 0 8 ∧ (j = 3 ∨ j = 5)) → gI (uI τ 0 4 (nI (W 0 11))) (60 + m) j = gI σ (60 + m) j := fun m j h1 h2 => by
    rw [gI_o (by omega)]
    exact t1 _ _ (by omega) (fun ⟨k, g1, g2, g3⟩ => by have := bO_r hv (nk k g1); omega) (fun ⟨m', g1, g2, g3⟩ => by omega)
  have sb : ∀ k j, k < W 0 4 → ¬ (k < W 0 7 ∧ 4 ≤ j ∧ j ≤ 8) → gI (uI τ 0 4 (nI (W 0 11))) (bO W k) j = gI σ (bO W k) j := fun k j h1 h2 => by
    have hr := bO_r hv h1
    rw [gI_o (by omega)]
    exact t1 _ _ (by omega) (fun ⟨k', g1, g2, g3⟩ => by have := bO_i hv h1 (nk k' g1) g2; subst this; exact h2 ⟨g1, g3⟩) (fun ⟨m', g1, g2, g3⟩ => by omega)
  have sk : ∀ k j, k < W 0 7 → gI (uI τ 0 4 (nI (W 0 11))) (bO W k) j = gI τ (bO W k) j := fun k j h1 => by
    have hr := bO_r hv (nk k h1)
    rw [gI_o (by omega)]
  rw [sl _ _ (by omega) (by omega) (by omega), h.mx.bs]
  refine sR_back hv h.dv h.2.2.1 (fun z => by omega) (fun _ υ u1 u2 => ⟨rfl, RW.rel (W := wbk W) ?_⟩)
  have w0 : ∀ y, ¬ y = 1 ∧ ¬ y = 2 ∧ ¬ y = 13 → wbk W 0 y = W 0 y := fun y hy => wbk_0 hy
  have wf : ∀ x, ¬ x = 0 → ¬ (x = 14 ∨ x = 15 ∨ x = 16 ∨ x = 18 ∨ x = 19) → ¬ (x = 4 ∨ x = 8) → ∀ y, wbk W x y = W x y := fun x h0 h1 h2 y => wbk_o h0 (fun z => h1 z.2) (fun z => h2 z.2)
  obtain ⟨hv', hd'⟩ := back_iv hv h.dv e
  have eb : ∀ k, bO (wbk W) k = bO W k := fun k => bO_cg (wf 10 (by omega) (by omega) (by omega) k)
  refine h.up hv' hd' (h.2.1.fr ⟨?_, ?_, ?_, ?_, ?_⟩ ⟨?_, ?_, ?_, ?_⟩ ⟨?_, ?_, ?_⟩ ⟨?_, ?_, ?_, ?_⟩ (w0 _ (by omega)) (w0 _ (by omega)) (wf _ (by omega) (by omega) (by omega)) t2) u1 (w0 _ (by omega)) ?_ u2
  · rw [w0 0 (by omega), w0 3 (by omega), w0 4 (by omega), sl _ _ (by omega) (by omega) (by omega), sl _ _ (by omega) (by omega) (by omega), sl _ _ (by omega) (by omega) (by omega), gI_o (by omega), gI_o (by omega)]
    exact ⟨h.mx.1.1, h.mx.1.2.1, h.mx.1.2.2.1, t3, t4⟩
  · intro s hs
    rw [w0 0 (by omega)] at hs
    rw [wf 1 (by omega) (by omega) (by omega), wf 2 (by omega) (by omega) (by omega), sl _ _ (by omega) (by omega) (by omega), sl _ _ (by omega) (by omega) (by omega)]
    exact h.mx.s hs
  · intro m hm
    rw [w0 3 (by omega)] at hm
    obtain ⟨x1, x2, x3, x4, x5, x6, x7, x8⟩ := h.mx.m hm
    rw [wf 3 (by omega) (by omega) (by omega), wf 5 (by omega) (by omega) (by omega), wf 6 (by omega) (by omega) (by omega), wf 7 (by omega) (by omega) (by omega), sm _ 0 hm (by omega), sm _ 1 hm (by omega), sm _ 2 hm (by omega), sm _ 4 hm (by omega)]
    by_cases g : m < W 0 8
    · obtain ⟨q1, q2⟩ := t6 m g
      rw [wbk_m g (Or.inl rfl), wbk_m g (Or.inr rfl), gI_o (by omega), gI_o (by omega)]
      exact ⟨(t2 _ _).trans x1, x2, x3, x4, x5, q1, x7, q2⟩
    · rw [wbk_o (x := 4) (by omega) (by omega) (by omega), wbk_o (x := 8) (by omega) (by omega) (by omega), sm _ 3 hm (by omega), sm _ 5 hm (by omega)]
      exact ⟨(t2 _ _).trans x1, x2, x3, x4, x5, x6, x7, x8⟩
  · intro k hk
    rw [w0 4 (by omega)] at hk
    obtain ⟨x1, x2, x3, x4, x5, x6, x7, x8, x9⟩ := h.mx.b hk
    rw [eb, wf 10 (by omega) (by omega) (by omega), wf 11 (by omega) (by omega) (by omega), wf 12 (by omega) (by omega) (by omega), wf 13 (by omega) (by omega) (by omega), sb _ 0 hk (by omega), sb _ 1 hk (by omega), sb _ 2 hk (by omega), sb _ 3 hk (by omega)]
    by_cases g : k < W 0 7
    · obtain ⟨q1, q2, q3, q4, q5⟩ := t5 k g
      rw [wbk_b g (by omega), wbk_b g (by omega), wbk_b g (by omega), sk _ _ g, sk _ _ g, sk _ _ g]
      exact ⟨(t2 _ _).trans x1, x2, x3, x4, x5, x6, q3, q4, q5⟩
    · rw [wbk_o (x := 14) (by omega) (by omega) (by omega), wbk_o (x := 15) (by omega) (by omega) (by omega), wbk_o (x := 16) (by omega) (by omega) (by omega), sb _ 6 hk (by omega), sb _ 7 hk (by omega), sb _ 8 hk (by omega)]
      exact ⟨(t2 _ _).trans x1, x2, x3, x4, x5, x6, x7, x8, x9⟩
  · intro i hi
    rw [w0 4 (by omega)] at hi
    rw [wf 17 (by omega) (by omega) (by omega), sl _ _ (by omega) (by omega) (by omega)]
    exact h.mx.o hi
  · rw [w0 5 (by omega), sl _ _ (by omega) (by omega) (by omega)]; exact h.dx.1
  · intro d hd2
    rw [w0 5 (by omega)] at hd2
    rw [wf 20 (by omega) (by omega) (by omega), sl _ _ (by omega) (by omega) (by omega)]
    exact h.dx.2.1 d hd2
  · intro k hk
    rw [w0 4 (by omega)] at hk
    rw [eb]
    by_cases g : k < W 0 7
    · obtain ⟨q1, q2, q3, q4, q5⟩ := t5 k g
      rw [wbk_b g (by omega), wbk_b g (by omega), sk _ _ g, sk _ _ g]
      exact ⟨q1, q2⟩
    · rw [wbk_o (x := 18) (by omega) (by omega) (by omega), wbk_o (x := 19) (by omega) (by omega) (by omega), sb _ 4 hk (by omega), sb _ 5 hk (by omega)]
      exact h.dx.2.2.1 k hk
  · intro s hs
    rw [w0 0 (by omega)] at hs
    rw [w0 4 (by omega), du_cg (wf 12 (by omega) (by omega) (by omega)), sl _ _ (by omega) (by omega) (by omega)]
    exact h.dx.2.2.2 s hs
  · rw [w0 6 (by omega), w0 9 (by omega), w0 10 (by omega), w0 11 (by omega), sl _ _ (by omega) (by omega) (by omega), sl _ _ (by omega) (by omega) (by omega), sl _ _ (by omega) (by omega) (by omega), sl _ _ (by omega) (by omega) (by omega)]
    exact h.ix.1
  · intro m hm
    rw [w0 3 (by omega)] at hm
    rw [w0 8 (by omega), wf 24 (by omega) (by omega) (by omega), wf 25 (by omega) (by omega) (by omega), sm _ 6 hm (by omega), sm _ 7 hm (by omega), sm _ 8 hm (by omega)]
    exact h.ix.2.1 m hm
  · intro k hk
    rw [w0 4 (by omega)] at hk
    rw [w0 7 (by omega), eb, wf 21 (by omega) (by omega) (by omega), wf 22 (by omega) (by omega) (by omega), wf 23 (by omega) (by omega) (by omega), sb _ 9 hk (by omega), sb _ 10 hk (by omega), sb _ 11 hk (by omega), sb _ 12 hk (by omega)]
    exact h.ix.2.2 k hk
  · rw [w0 12 (by omega), sl _ _ (by omega) (by omega) (by omega)]; exact h.ts.1
  · rw [gI_s]; rfl
  · rw [w0 14 (by omega), sl _ _ (by omega) (by omega) (by omega)]; exact h.ts.2.2.1
  · intro i hi
    rw [w0 14 (by omega)] at hi
    rw [wf 26 (by omega) (by omega) (by omega), sl _ _ (by omega) (by omega) (by omega)]
    exact h.ts.2.2.2 i hi
  · intro c k h1 h2; exact sl _ _ (by omega) (by omega) (by omega)
