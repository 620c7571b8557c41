/-! PURE: image and back -/
theorem isB_n {n : Nat} (h : n ≤ 1) : isB (nI n) := by
  have : n = 0 ∨ n = 1 := by omega
  rcases this with rfl | rfl
  · exact isB_0
  · exact isB_1
theorem sX_keep {W : Vw} {ids : List Nat} {σ : St} (hv : Iv W) (hM : MX W ids σ) (hD : DX W σ) {post : St → Prop} (h : ∀ τ, (∀ c k, ¬ (kI c k ∧ ¬ c = 0) → gI τ c k = gI σ c k) → (∀ c k, gR τ c k = gR σ c k) → gI τ 1 16 = nI (W 0 1) → gI τ 1 17 = nI (W 0 2) → (∀ k, k < W 0 4 → gI τ (bO W k) 9 = 1 ∧ gI τ (bO W k) 10 = nI (W 14 k) ∧ gI τ (bO W k) 11 = nI (W 18 k) ∧ gI τ (bO W k) 12 = nI (W 19 k)) → (∀ m, m < W 0 3 → gI τ (60 + m) 6 = 1 ∧ gI τ (60 + m) 7 = nI (W 8 m) ∧ gI τ (60 + m) 8 = nI (W 4 m)) → post τ) : wX6_keep ids σ post := by
  have hc := hv.c
  rintro s1 rfl s2 rfl
  rw [hM.et, gI_o (by omega), hM.pw]
  have bi : ∀ j k, j < W 0 4 → k < W 0 4 → bO W j = bO W k → j = k := by
    intro j k hj hk e
    have := (hv.b hj).1
    have := (hv.b hk).1
    unfold bO at e
    omega
  refine lpc1 (wX6_keep_18 ids post) (W 0 4) (by omega) (fun i τ => (∀ c k, ¬ (kI c k ∧ ¬ c = 0) → gI τ c k = gI σ c k) ∧ (∀ c k, gR τ c k = gR σ c k) ∧ gI τ 1 16 = nI (W 0 1) ∧ gI τ 1 17 = nI (W 0 2) ∧ (∀ k, k < i → gI τ (bO W k) 9 = 1 ∧ gI τ (bO W k) 10 = nI (W 14 k) ∧ gI τ (bO W k) 11 = nI (W 18 k) ∧ gI τ (bO W k) 12 = nI (W 19 k))) ?_ ?_ _ ⟨fun c k hk => ?_, fun _ _ => rfl, ?_, ?_, fun k hk => absurd hk (Nat.not_lt_zero _)⟩
  · rintro n τ ⟨t1, t2, t3, t4, t5⟩
    rw [wX6_keep_18_s]
    refine dt (by rw [t1 _ _ (by unfold kI; omega), hM.bs]; exact nI_le (Nat.le_refl _) (by omega)) ?_
    refine lpc1 (wX6_keep_43 ids post) (W 0 3) (by omega) (fun i υ => (∀ c k, ¬ (kI c k ∧ ¬ c = 0) → gI υ c k = gI σ c k) ∧ (∀ c k, gR υ c k = gR σ c k) ∧ (∀ c k, ¬ (60 ≤ c ∧ c < 70) → gI υ c k = gI τ c k) ∧ (∀ m, m < i → gI υ (60 + m) 6 = 1 ∧ gI υ (60 + m) 7 = nI (W 8 m) ∧ gI υ (60 + m) 8 = nI (W 4 m))) ?_ ?_ τ ⟨t1, t2, fun _ _ _ => rfl, fun m hm => absurd hm (Nat.not_lt_zero _)⟩
    · rintro n υ ⟨u1, u2, u3, u4⟩
      rw [wX6_keep_43_s]
      refine dt (by rw [u1 _ _ (by unfold kI; omega), hM.ms]; exact nI_le (Nat.le_refl _) (by omega)) ?_
      refine h υ u1 u2 (by rw [u3 _ _ (by omega)]; exact t3) (by rw [u3 _ _ (by omega)]; exact t4) (fun k hk => ?_) u4
      have hr := bO_r hv hk
      rw [u3 _ _ (by omega), u3 _ _ (by omega), u3 _ _ (by omega), u3 _ _ (by omega)]
      exact t5 k hk
    · rintro n i υ hi ⟨u1, u2, u3, u4⟩ kk
      rw [wX6_keep_43_s]
      obtain ⟨x1, x2, x3, x4, x5, x6, x7, x8⟩ := hM.m hi
      have hm := hv.m hi
      refine df (by rw [u1 _ _ (by unfold kI; omega), hM.ms]; exact nI_ge hi (by omega)) ⟨vin (by omega) (by omega), 60 + i, by rw [nI_clamp (by omega), u2]; exact x1, hM.okM hv hi, ?_⟩
      rintro s1 rfl
      rw [gI_o (by omega), u1 _ _ (by unfold kI; omega), x8]
      refine ⟨isB_n hm.2.2.2.2.2, ?_⟩
      rintro s3 rfl
      rw [gI_o (by omega), gI_o (by omega), u1 _ 3 (by unfold kI; omega), x6]
      rintro s4 rfl v rfl
      rw [nI_1]
      refine kk _ ⟨fun c k hk => ?_, u2, fun c k hk => ?_, fun m hm' => ?_⟩
      · unfold kI at hk
        rw [gI_o (by omega), gI_o (by omega), gI_o (by omega)]
        exact u1 c k (by unfold kI; omega)
      · rw [gI_o (by omega), gI_o (by omega), gI_o (by omega)]
        exact u3 c k hk
      · by_cases e : m = i
        · subst e
          rw [gI_o (by omega), gI_o (by omega), gI_s, gI_o (by omega), gI_s, gI_s]
          exact ⟨rfl, rfl, rfl⟩
        · rw [gI_o (by omega), gI_o (by omega), gI_o (by omega), gI_o (by omega), gI_o (by omega), gI_o (by omega), gI_o (by omega), gI_o (by omega), gI_o (by omega)]
          exact u4 m (by omega)
  · rintro n i τ hi ⟨t1, t2, t3, t4, t5⟩ kk
    rw [wX6_keep_18_s]
    obtain ⟨x1, x2, x3, x4, x5, x6, x7, x8, x9⟩ := hM.b hi
    obtain ⟨y1, y2⟩ := hD.2.2.1 i hi
    have hb := hv.b hi
    have hr := bO_r hv hi
    refine df (by rw [t1 _ _ (by unfold kI; omega), hM.bs]; exact nI_ge hi (by omega)) ⟨vin (by omega) (by omega), bO W i, by rw [nI_clamp (by omega), t2]; exact x1, hM.okB hv hi, ?_⟩
    rintro s1 rfl
    rw [gI_o (by omega), t1 _ _ (by unfold kI; omega), x9]
    refine ⟨isB_n hb.2.2.2.2.2.2.1, ?_⟩
    rintro s3 rfl
    rw [gI_o (by omega), gI_o (by omega), t1 _ 4 (by unfold kI; omega), y1]
    rintro s4 rfl
    rw [gI_o (by omega), gI_o (by omega), gI_o (by omega), t1 _ 5 (by unfold kI; omega), y2]
    rintro s5 rfl v rfl
    rw [nI_1]
    have n4 : ∀ c k, ¬ (c = bO W i ∧ 9 ≤ k ∧ k ≤ 12) → gI (uI (uI (uI (uI τ (bO W i) 9 1) (bO W i) 10 (nI (W 14 i))) (bO W i) 11 (nI (W 18 i))) (bO W i) 12 (nI (W 19 i))) c k = gI τ c k := fun c k hk => by rw [gI_o (by omega), gI_o (by omega), gI_o (by omega), gI_o (by omega)]
    refine kk _ ⟨fun c k hk => ?_, t2, ?_, ?_, fun k hk => ?_⟩
    · unfold kI at hk
      rw [n4 _ _ (by omega)]
      exact t1 c k (by unfold kI; omega)
    · rw [n4 _ _ (by omega)]; exact t3
    · rw [n4 _ _ (by omega)]; exact t4
    · by_cases e : k = i
      · subst e
        rw [gI_o (by omega), gI_o (by omega), gI_o (by omega), gI_s, gI_o (by omega), gI_o (by omega), gI_s, gI_o (by omega), gI_s, gI_s]
        exact ⟨rfl, rfl, rfl, rfl⟩
      · have nb : ¬ bO W k = bO W i := fun z => e (bi k i (by omega) hi z)
        rw [n4 _ _ (by omega), n4 _ _ (by omega), n4 _ _ (by omega), n4 _ _ (by omega)]
        exact t5 k (by omega)
  · unfold kI at hk
    rw [gI_o (by omega), gI_o (by omega)]
  · rw [gI_o (by omega), gI_s]
  · rw [gI_s]
def wim (W : Vw) : Vw := fun x y => if x = 0 then (if y = 6 then 1 else if y = 7 then W 0 4 else if y = 8 then W 0 3 else if y = 9 then W 0 1 else if y = 10 then W 0 2 else if y = 11 then W 0 13 else W 0 y) else if x = 21 then W 18 y else if x = 22 then W 19 y else if x = 23 then W 14 y else if x = 24 then W 4 y else if x = 25 then W 8 y else W x y
theorem wim_o {W : Vw} {x y : Nat} (h : ¬ (x = 0 ∧ 6 ≤ y ∧ y ≤ 11)) (h2 : ¬ (21 ≤ x ∧ x ≤ 25)) : wim W x y = W x y := by
  unfold wim
  by_cases z : x = 0
  · subst z
    rw [if_pos rfl, if_neg (by omega), if_neg (by omega), if_neg (by omega), if_neg (by omega), if_neg (by omega), if_neg (by omega)]
  · rw [if_neg z, if_neg (by omega), if_neg (by omega), if_neg (by omega), if_neg (by omega), if_neg (by omega)]
theorem sR_image {W : Vw} {ρ : St} (hv : Iv W) (hR : RR W ρ) {post : Int32 → St → Prop} (h : ∀ τ, RR (wim W) τ → (∀ c k, ¬ qI c k → gI τ c k = gI ρ c k) → post (nI (W 0 4)) τ) : wX12_image ρ post := by
  have hc := hv.c
  obtain ⟨hM, hD, hI, hT⟩ := hR
  rintro s1 rfl s2 rfl s3 rfl s4 rfl s5 rfl s6 rfl
  rw [gI_o (by omega), hM.bs, gI_o (by omega), gI_o (by omega), hM.ms, gI_o (by omega), gI_o (by omega), gI_o (by omega), hM.et, gI_o (by omega), gI_o (by omega), gI_o (by omega), gI_o (by omega), hM.pw, gI_o (by omega), gI_o (by omega), gI_o (by omega), gI_o (by omega), gI_o (by omega), hT.2.1]
  have n6 : ∀ c k, ¬ (c = 0 ∧ 61 ≤ k ∧ k ≤ 66) → gI (uI (uI (uI (uI (uI (uI ρ 0 61 1) 0 62 (nI (W 0 4))) 0 63 (nI (W 0 3))) 0 64 (nI (W 0 1))) 0 65 (nI (W 0 2))) 0 66 (nI (W 0 13))) c k = gI ρ c k := fun c k hk => by rw [gI_o (by omega), gI_o (by omega), gI_o (by omega), gI_o (by omega), gI_o (by omega), gI_o (by omega)]
  refine lpc1 (wX12_image_47 post) (W 0 4) (by omega) (fun i τ => (∀ c k, ¬ qI c k → gI τ c k = gI ρ c k) ∧ (gI τ 0 61 = 1 ∧ gI τ 0 62 = nI (W 0 4) ∧ gI τ 0 63 = nI (W 0 3) ∧ gI τ 0 64 = nI (W 0 1) ∧ gI τ 0 65 = nI (W 0 2) ∧ gI τ 0 66 = nI (W 0 13)) ∧ (∀ k, k < i → gI τ 26 k = nI (W 18 k) ∧ gI τ 27 k = nI (W 19 k) ∧ gI τ 28 k = nI (W 14 k))) ?_ ?_ _ ⟨fun c k hk => ?_, ⟨?_, ?_, ?_, ?_, ?_, ?_⟩, fun k hk => absurd hk (Nat.not_lt_zero _)⟩
  · rintro n τ ⟨t1, t2, t3⟩
    rw [wX12_image_47_s]
    refine dt (by rw [t1 _ _ (by unfold qI; omega), hM.bs]; exact nI_le (Nat.le_refl _) (by omega)) ?_
    refine lpc1 (wX12_image_99 post) (W 0 3) (by omega) (fun i υ => (∀ c k, ¬ (c = 29 ∨ c = 30) → gI υ c k = gI τ c k) ∧ (∀ m, m < i → gI υ 29 m = nI (W 4 m) ∧ gI υ 30 m = nI (W 8 m))) ?_ ?_ τ ⟨fun _ _ _ => rfl, fun m hm => absurd hm (Nat.not_lt_zero _)⟩
    · rintro n υ ⟨u1, u2⟩
      rw [wX12_image_99_s]
      have a1 : ∀ c k, ¬ qI c k → gI υ c k = gI ρ c k := fun c k hk => by
        rw [u1 c k (by unfold qI at hk; omega)]
        exact t1 c k hk
      refine dt (by rw [a1 _ _ (by unfold qI; omega), hM.ms]; exact nI_le (Nat.le_refl _) (by omega)) ?_
      rw [a1 _ _ (by unfold qI; omega), hM.bs]
      refine h υ ⟨hM.fr ?_ ?_, hD.fr ?_ ?_, ⟨?_, ?_, ?_⟩, hT.fr ?_ ?_⟩ a1
      · intro x y hx; unfold cM at hx; exact wim_o (by omega) (by omega)
      · intro c k hk; unfold qM at hk; exact a1 _ _ (by unfold qI; omega)
      · intro x y hx; unfold cD at hx; exact wim_o (by omega) (by omega)
      · intro c k hk; unfold qD at hk; exact a1 _ _ (by unfold qI; omega)
      · rw [u1 _ _ (by omega), u1 _ _ (by omega), u1 _ _ (by omega), u1 _ _ (by omega), u1 _ _ (by omega), u1 _ _ (by omega)]
        exact t2
      · intro m hm
        exact u2 m hm
      · intro k hk
        rw [u1 _ _ (by omega), u1 _ _ (by omega), u1 _ _ (by omega)]
        exact t3 k hk
      · intro x y hx; unfold cT at hx; exact wim_o (by omega) (by omega)
      · intro c k hk; unfold qT at hk; exact a1 _ _ (by unfold qI; omega)
    · rintro n i υ hi ⟨u1, u2⟩ kk
      rw [wX12_image_99_s]
      have a1 : ∀ c k, ¬ qI c k → gI υ c k = gI ρ c k := fun c k hk => by
        rw [u1 c k (by unfold qI at hk; omega)]
        exact t1 c k hk
      obtain ⟨m1, m2, m3, ⟨m4, m4'⟩, m5, m6⟩ := hM.m hi
      have m4 := m4 (by rw [hD.2.2.2.2]; exact ne_m1 (by omega))
      refine df (by rw [a1 _ _ (by unfold qI; omega), hM.ms]; exact nI_ge hi (by omega)) ⟨vin (by omega) (by omega), ?_⟩
      rw [nI_clamp (by omega), a1 _ _ (by unfold qI; omega), m4]
      rintro s4 rfl
      rw [gI_o (by omega), a1 _ _ (by unfold qI; omega), m6]
      rintro s7 rfl v rfl
      rw [nI_1]
      refine kk _ ⟨fun c k hk => by rw [gI_o (by omega), gI_o (by omega)]; exact u1 c k hk, fun m hm => ?_⟩
      by_cases e : m = i
      · subst e
        rw [gI_o (by omega), gI_s, gI_s]
        exact ⟨rfl, rfl⟩
      · rw [gI_o (by omega), gI_o (by omega), gI_o (by omega), gI_o (by omega)]
        exact u2 m (by omega)
  · rintro n i τ hi ⟨t1, t2, t3⟩ kk
    rw [wX12_image_47_s]
    obtain ⟨d1, d2⟩ := hD.2.2.1 i hi
    have r5 := (hM.b hi).2.2.2.2.1
    refine df (by rw [t1 _ _ (by unfold qI; omega), hM.bs]; exact nI_ge hi (by omega)) ⟨vin (by omega) (by omega), ?_⟩
    rw [nI_clamp (by omega), t1 _ _ (by unfold qI; omega), d1]
    rintro s1 rfl
    rw [gI_o (by omega), t1 _ _ (by unfold qI; omega), d2]
    rintro s2 rfl
    rw [gI_o (by omega), gI_o (by omega), t1 _ _ (by unfold qI; omega), r5]
    rintro s3 rfl v rfl
    rw [nI_1]
    refine kk _ ⟨fun c k hk => ?_, ?_, fun k hk => ?_⟩
    · unfold qI at hk
      rw [gI_o (by omega), gI_o (by omega), gI_o (by omega)]
      exact t1 c k (by unfold qI; omega)
    · rw [gI_o (by omega), gI_o (by omega), gI_o (by omega), gI_o (by omega), gI_o (by omega), gI_o (by omega), gI_o (by omega), gI_o (by omega), gI_o (by omega), gI_o (by omega), gI_o (by omega), gI_o (by omega), gI_o (by omega), gI_o (by omega), gI_o (by omega), gI_o (by omega), gI_o (by omega), gI_o (by omega)]
      exact t2
    · by_cases e : k = i
      · subst e
        rw [gI_o (by omega), gI_o (by omega), gI_s, gI_o (by omega), gI_s, gI_s]
        exact ⟨rfl, rfl, rfl⟩
      · rw [gI_o (by omega), gI_o (by omega), gI_o (by omega), gI_o (by omega), gI_o (by omega), gI_o (by omega), gI_o (by omega), gI_o (by omega), gI_o (by omega)]
        exact t3 k (by omega)
  · unfold qI at hk
    exact n6 _ _ (by omega)
  · rw [gI_o (by omega), gI_o (by omega), gI_o (by omega), gI_o (by omega), gI_o (by omega), gI_s]
  · rw [gI_o (by omega), gI_o (by omega), gI_o (by omega), gI_o (by omega), gI_s]
  · rw [gI_o (by omega), gI_o (by omega), gI_o (by omega), gI_s]
  · rw [gI_o (by omega), gI_o (by omega), gI_s]
  · rw [gI_o (by omega), gI_s]
  · rw [gI_s]
theorem pc_image {ids : List Nat} {σ ρ : St} (h : Rel ids σ ρ) : wX11_image ids σ (fun r σ1 => wX12_image ρ (fun r2 ρ1 => r = r2 ∧ Rel ids σ1 ρ1)) := by
  obtain ⟨-, W, h⟩ := h
  have hv := h.iv
  have hc := hv.c
  obtain ⟨d1, d2, d3, d4, d5, d6, d7, d8⟩ := h.dv
  refine sX_keep hv h.mx h.dx (fun τ t1 t2 t3 t4 t5 t6 => ?_)
  rw [t1 0 4 (by omega), h.ts.2.1]
  rintro s1 rfl s2 rfl
  have n2 : ∀ c k, ¬ kI c k → gI (uI (uI τ 0 12 (nI (W 0 13))) 0 11 1) c k = gI σ c k := fun c k hk => by
    have hk' := hk
    unfold kI at hk'
    rw [gI_o (by omega), gI_o (by omega)]
    exact t1 c k (fun z => hk z.1)
  rw [n2 _ _ (by unfold kI; omega), h.mx.bs]
  refine sR_image hv h.2.2.1 (fun υ u1 u2 => ⟨rfl, RW.rel (W := wim W) ?_⟩)
  refine h.up (hv.fr ?_) ⟨?_, ?_, ?_, ?_, ?_, ?_, ?_, ?_⟩ (h.2.1.fr (h.mx.fr hv ?_ ?_ t2) (h.dx.fr hv ?_ ?_) ⟨?_, ?_, ?_⟩ (h.ts.fr ?_ ?_) rfl rfl (fun _ => rfl) t2) u1 rfl ?_ ?_
  · intro x y hx; unfold cM at hx; exact wim_o (by omega) (by omega)
  · exact ⟨d1.1, Nat.le_refl 1, Nat.le_refl _, Nat.le_refl _, d1.2.2.2.2⟩
  · intro _
    exact ⟨hc.2.2.1, hc.2.1, hc.2.2.2.1, d1.2.2.2.2.2.2.1⟩
  · exact d3
  · exact d4
  · exact d5
  · intro k hk
    obtain ⟨a1, a2, a3, a4, a5⟩ := d4 k hk
    exact ⟨a1, a2, a3, (hv.b hk).2.2.2.2.2.2.1⟩
  · intro m hm
    exact ⟨d5 m hm, (hv.m hm).2.2.2.2.2⟩
  · exact d8
  · intro x y hx; unfold cM at hx; exact wim_o (by omega) (by omega)
  · intro c k hk; unfold kM at hk; exact n2 _ _ (by unfold kI; omega)
  · intro x y hx; unfold cD at hx; exact wim_o (by omega) (by omega)
  · intro c k hk; unfold kD at hk; exact n2 _ _ (by unfold kI; omega)
  · refine ⟨gI_s, ?_, ?_, ?_⟩
    · rw [gI_o (by omega), gI_s]; rfl
    · rw [gI_o (by omega), gI_o (by omega)]; exact t3
    · rw [gI_o (by omega), gI_o (by omega)]; exact t4
  · intro m hm
    have hm' : m < W 0 3 := hm
    obtain ⟨a1, a2, a3⟩ := t6 m hm'
    have e8 : wim W 0 8 = W 0 3 := rfl
    rw [e8, if_pos hm', gI_o (by omega), gI_o (by omega), gI_o (by omega), gI_o (by omega), gI_o (by omega), gI_o (by omega)]
    exact ⟨a1, fun _ => ⟨a2, a3⟩⟩
  · intro k hk
    have hk' : k < W 0 4 := hk
    have hr := bO_r hv hk'
    obtain ⟨a1, a2, a3, a4⟩ := t5 k hk'
    have e7 : wim W 0 7 = W 0 4 := rfl
    have eb : bO (wim W) k = bO W k := rfl
    rw [e7, eb, if_pos hk', gI_o (by omega), gI_o (by omega), gI_o (by omega), gI_o (by omega), gI_o (by omega), gI_o (by omega), gI_o (by omega), gI_o (by omega)]
    exact ⟨a1, fun _ => ⟨a2, a3, a4⟩⟩
  · intro x y hx; unfold cT at hx; exact wim_o (by omega) (by omega)
  · intro c k hk; unfold kT at hk; exact n2 _ _ (by unfold kI; omega)
  · intro c k h1 h2; exact n2 _ _ (by unfold kI; omega)
  · intro c k hk; exact u2 _ _ (by unfold qI; omega)
