/-! PURE: belt -/
theorem neg_qr {a d : Int32} (hd : d = 10 ∨ d = 100) (ha : a.toInt < 0) (h : 0 ≤ (a / d).toInt) : (a - a / d * d).toInt < 0 := by
  have hne : d ≠ -1 := by rcases hd with rfl | rfl <;> decide
  have hp : 0 < d.toInt := by rcases hd with rfl | rfl <;> decide
  have e := Int32.toInt_div_of_ne_right a d hne
  have n1 : a.toInt.tdiv d.toInt ≤ 0 := by
    have e2 : a.toInt = -(-a.toInt) := by omega
    rw [e2, Int.neg_tdiv]
    have := Int.tdiv_nonneg (a := -a.toInt) (b := d.toInt) (by omega) (by omega)
    omega
  have z : (a / d).toInt = 0 := by omega
  have z2 : a / d = 0 := by rw [fb_eq, z]; rfl
  rw [z2, Int32.zero_mul, Int32.sub_zero]
  exact ha
theorem layX_B {K kd : Nat} (h : kd ≤ 5) : layX (72 + 8 * K + kd) = (0, if kd = 0 then 0 else if kd = 1 then 2 else if kd = 2 then 3 else if kd = 3 then 1 else if kd = 4 then 4 else 10) := by
  unfold layX
  rw [if_neg (by omega), if_neg (by omega), if_neg (by omega), if_neg (by omega)]
  have e : (72 + 8 * K + kd) % 8 = kd := by omega
  rw [e]
  have : kd = 0 ∨ kd = 1 ∨ kd = 2 ∨ kd = 3 ∨ kd = 4 ∨ kd = 5 := by omega
  rcases this with rfl | rfl | rfl | rfl | rfl | rfl <;> rfl
theorem pos_n {a : Int32} (h : ¬ a < 0) : ∃ w, w < 2 ^ 31 ∧ a = nI w := nI_of h
theorem belt_rank {W : Vw} (hv : Iv W) {e d : Nat} (hdu : du W (W 0 4) e = none) (hb : BH W e d = false) : (∀ k, k < W 0 4 → (if BH W e (W 11 k) = true then rk W (W 11 k) + 8 else rk W (W 11 k)) < (if BH W e (W 12 k) = true then rk W (W 12 k) + 8 else rk W (W 12 k))) ∧ (if BH W e d = true then rk W d + 8 else rk W d) < (if BH W e e = true then rk W e + 8 else rk W e) := by
  constructor
  · intro k hk
    have h1 := BH_some hv (t := e) (du_is hv hk)
    have ne : ¬ W 12 k = e := fun z => du_none hdu k hk z
    rw [decide_eq_false ne, Bool.false_or] at h1
    rw [h1]
    have := rk_lt hv hk
    split <;> omega
  · rw [hb, BH_self]
    have := rk_7 hv d
    simp
    omega
theorem pc_belt {ids : List Nat} {σ ρ : St} (a1 : Int32) (a2 : Int32) (a3 : Int32) (a4 : Int32) (h : Rel ids σ ρ) : ∃ d0, wX11_belt ids d0 a1 a2 a3 a4 σ (fun r σ1 ids1 => wX12_belt a1 a2 a3 a4 ρ (fun r2 ρ1 => r = r2 ∧ Rel ids1 σ1 ρ1)) := by
  obtain ⟨-, W, h⟩ := h
  have hv := h.iv
  have hc := hv.c
  have hdc := h.dv.1
  refine ⟨72 + 8 * W 0 4, ?_⟩
  have hrel := h.rel
  have rbad : ∀ P : Int32 → St → Prop, P (-2) ρ → (wi a1.toInt 0 5 = true → ¬ a2 < 0 → wi (a2 / (10 : Int32)).toInt 0 ((W 0 0 : Int) - 1) = true → wi (a2 - a2 / (10 : Int32) * (10 : Int32)).toInt 0 ((W 0 0 : Int) - 1) = true → ¬ (a2 - a2 / (10 : Int32) * (10 : Int32)) = 0 → ¬ (a2 / (10 : Int32)) = (a2 - a2 / (10 : Int32) * (10 : Int32)) → ¬ a3 < 0 → wi (a3 / (100 : Int32)).toInt 0 ((W 0 5 : Int) - 1) = true → wi (a3 - a3 / (100 : Int32) * (100 : Int32)).toInt 0 ((W 0 5 : Int) - 1) = true → ¬ (a3 / (100 : Int32)) = (a3 - a3 / (100 : Int32) * (100 : Int32)) → wi a4.toInt 1 999 = true → False) → wX12_belt a1 a2 a3 a4 ρ P := by
    intro P hP hno
    refine sR_inI 0 5 rfl rfl (bI_d (fun _ => hP) (fun b1 => ⟨fun _ => hP, fun b2 => ?_⟩))
    refine sR_isShaft hv h.mr _ (bI_d (fun _ => hP) (fun b3 => ?_))
    refine sR_isShaft hv h.mr _ (bI_d (fun _ => hP) (fun b4 => ⟨fun _ => hP, fun b5 => ⟨fun b6 => ⟨fun _ => hP, fun b7 => ?_⟩, fun _ => hP⟩⟩))
    refine sR_isDrum h.dv h.dr _ (bI_d (fun _ => hP) (fun b8 => ?_))
    refine sR_isDrum h.dv h.dr _ (bI_d (fun _ => hP) (fun b9 => ⟨fun _ => hP, fun b10 => ?_⟩))
    exact sR_inI 1 999 rfl rfl (bI_e (fun _ => hP) (fun b11 => absurd (hno b1 b2 b3 b4 b5 b6 b7 b8 b9 b10 b11) id))
  rintro v1 rfl v2 rfl v3 rfl v4 rfl
  refine sX_isKind a1 (bI_d (fun c => rbad _ ⟨rfl, hrel⟩ (fun z => by rw [c] at z; exact absurd z (by decide))) (fun b1 => ?_))
  refine sX_isShaft hv h.mx _ (bI_d (fun c => rbad _ ⟨rfl, hrel⟩ (fun _ _ z => by rw [c] at z; exact absurd z (by decide))) (fun b3 => ?_))
  refine sX_isShaft hv h.mx _ (bI_d (fun c => rbad _ ⟨rfl, hrel⟩ (fun _ _ _ z => by rw [c] at z; exact absurd z (by decide))) (fun b4 => ?_))
  have b2 : ¬ a2 < 0 := by
    intro z
    rw [fb_lt] at z
    have z0 : (0 : Int32).toInt = 0 := rfl
    have y1 := of_decide_eq_true b3
    have y2 := of_decide_eq_true b4
    have := neg_qr (Or.inl rfl) (by omega) y1.1
    omega
  refine ⟨fun c => rbad _ ⟨rfl, hrel⟩ (fun _ _ _ _ z => absurd c z), fun b5 => ⟨fun b6 => ?_, fun c => rbad _ ⟨rfl, hrel⟩ (fun _ _ _ _ _ z => absurd c.symm z)⟩⟩
  refine sX_isDrum h.dv h.dx _ (bI_d (fun c => rbad _ ⟨rfl, hrel⟩ (fun _ _ _ _ _ _ _ z => by rw [c] at z; exact absurd z (by decide))) (fun b8 => ?_))
  refine sX_isDrum h.dv h.dx _ (bI_d (fun c => rbad _ ⟨rfl, hrel⟩ (fun _ _ _ _ _ _ _ _ z => by rw [c] at z; exact absurd z (by decide))) (fun b9 => ?_))
  have b7 : ¬ a3 < 0 := by
    intro z
    rw [fb_lt] at z
    have z0 : (0 : Int32).toInt = 0 := rfl
    have y1 := of_decide_eq_true b8
    have y2 := of_decide_eq_true b9
    have := neg_qr (Or.inr rfl) (by omega) y1.1
    omega
  refine ⟨fun c => rbad _ ⟨rfl, hrel⟩ (fun _ _ _ _ _ _ _ _ _ z => absurd c z), fun b10 => ?_⟩
  refine sX_within 1 999 rfl rfl (bI_e (fun c => rbad _ ⟨rfl, hrel⟩ (fun _ _ _ _ _ _ _ _ _ _ z => by rw [c] at z; exact absurd z (by decide))) (fun b11 => ?_))
  clear rbad
  obtain ⟨kd, hkd, rfl⟩ := wi_k (N := 5) b1
  obtain ⟨g, hg1, hg, rfl⟩ := wi_1 (by decide) b11
  obtain ⟨w2, hw2, rfl⟩ := pos_n b2
  obtain ⟨w3, hw3, rfl⟩ := pos_n b7
  have e10 : (10 : Int32) = nI 10 := rfl
  have e100 : (100 : Int32) = nI 100 := rfl
  have q1 := (nI_qr (w := w2) (d := 10) hw2 (by omega)).1
  have q2 := (nI_qr (w := w2) (d := 10) hw2 (by omega)).2
  have q3 := (nI_qr (w := w3) (d := 100) hw3 (by omega)).1
  have q4 := (nI_qr (w := w3) (d := 100) hw3 (by omega)).2
  rw [← e10] at q1 q2
  rw [← e100] at q3 q4
  obtain ⟨d, hd, ed⟩ : ∃ d, d = w2 / 10 ∧ nI w2 / 10 = nI d := ⟨_, rfl, q1⟩
  obtain ⟨e, he, ee⟩ : ∃ e, e = w2 % 10 ∧ nI w2 - nI w2 / 10 * 10 = nI e := ⟨_, rfl, q2⟩
  obtain ⟨A, hA, eA⟩ : ∃ A, A = w3 / 100 ∧ nI w3 / 100 = nI A := ⟨_, rfl, q3⟩
  obtain ⟨B, hB, eB⟩ : ∃ B, B = w3 % 100 ∧ nI w3 - nI w3 / 100 * 100 = nI B := ⟨_, rfl, q4⟩
  rw [ee] at b4 b5 b6
  rw [ed] at b3 b6
  rw [eB] at b9 b10
  rw [eA] at b8 b10
  have hd31 : d < 2 ^ 31 := by omega
  have hA31 : A < 2 ^ 31 := by omega
  have hd0 : d < W 0 0 := by
    have := of_decide_eq_true b3
    rw [fb_nI hd31] at this
    omega
  have he0 : e < W 0 0 := by
    have := of_decide_eq_true b4
    rw [fb_nI (by omega)] at this
    omega
  have hA0 : A < W 0 5 := by
    have := of_decide_eq_true b8
    rw [fb_nI hA31] at this
    omega
  have hB0 : B < W 0 5 := by
    have := of_decide_eq_true b9
    rw [fb_nI (by omega)] at this
    omega
  have he1 : 1 ≤ e := by
    rcases Nat.eq_zero_or_pos e with z | z
    · exact absurd (by rw [z, nI_0]) b5
    · exact z
  have hed : ¬ e = d := fun z => b6 (by rw [z])
  have hAB : ¬ A = B := fun z => b10 (by rw [z])
  have e7 : (nI (W 0 4) = (7 : Int32)) ↔ W 0 4 = 7 := nI_eq (b := 7) (by omega) (by omega)
  -- the reference
  have rgo : ∀ P : Int32 → St → Prop, ((∃ k, du W (W 0 4) e = some k) → P (-3) ρ) → (du W (W 0 4) e = none → BH W e d = true → P (-3) ρ) → (du W (W 0 4) e = none → BH W e d = false → W 0 4 = 7 → P (-4) ρ) → (du W (W 0 4) e = none → BH W e d = false → ¬ W 0 4 = 7 → P (nI (W 0 4)) (blR ρ (W 0 4) (nI kd) (nI d) (nI e) (nI A) (nI B) (nI g))) → wX12_belt (nI kd) (nI w2) (nI w3) (nI g) ρ P := by
    intro P p1 p2 p3 p4
    refine sR_inI 0 5 rfl rfl ?_
    rw [b1]
    refine df (by decide) (df b2 (sR_isShaft hv h.mr _ ?_))
    rw [ed, b3]
    refine df (by decide) (sR_isShaft hv h.mr _ ?_)
    rw [← ed, ee, ed, b4]
    refine df (by decide) (df b5 (dm (fun z => b6 z.symm) (df b7 (sR_isDrum h.dv h.dr _ ?_))))
    rw [eA, b8]
    refine df (by decide) (sR_isDrum h.dv h.dr _ ?_)
    rw [← eA, eB, eA, b9]
    refine df (by decide) (df b10 (sR_inI 1 999 rfl rfl ?_))
    rw [b11]
    refine dm (by decide) ?_
    refine lpc1 (wX12_belt_115 P (nI kd) (nI w2) (nI w3) (nI g)) (W 0 4) (by omega) (fun i τ => τ = ρ ∧ ∀ j, j < i → ¬ W 12 j = e) ?_ ?_ ρ ⟨rfl, fun j hj => absurd hj (Nat.not_lt_zero _)⟩
    · rintro n τ ⟨rfl, h0⟩
      rw [wX12_belt_115_s, ee, ed]
      have hdu : du W (W 0 4) e = none := by
        cases hh : du W (W 0 4) e with
        | none => rfl
        | some k => exact absurd (du_some hh).2 (h0 k (du_some hh).1)
      refine dt (by rw [h.mr.bs]; exact nI_le (Nat.le_refl _) (by omega)) (sR_isBehind hv h.mr he0 hd0 (bI_d (fun bb => ?_) (fun bb => p2 hdu bb)))
      rw [h.mr.bs, e7, eB, eA]
      by_cases f : W 0 4 = 7
      · exact dn f (p3 hdu bb f)
      · refine dm f ⟨vin (by omega) (by omega), ?_⟩
        rw [nI_clamp (by omega)]
        rintro s1 rfl
        rw [gI_o (by omega), h.mr.bs, nI_clamp (by omega)]
        refine ⟨vin (by omega) (by omega), ?_⟩
        rintro s2 rfl
        rw [gI_o (by omega), gI_o (by omega), h.mr.bs, nI_clamp (by omega)]
        refine ⟨vin (by omega) (by omega), ?_⟩
        rintro s3 rfl
        rw [gI_o (by omega), gI_o (by omega), gI_o (by omega), h.mr.bs, nI_clamp (by omega)]
        refine ⟨vin (by omega) (by omega), ?_⟩
        rintro s4 rfl
        rw [gI_o (by omega), gI_o (by omega), gI_o (by omega), gI_o (by omega), h.mr.bs, nI_clamp (by omega)]
        refine ⟨vin (by omega) (by omega), ?_⟩
        rintro s5 rfl
        rw [gI_o (by omega), gI_o (by omega), gI_o (by omega), gI_o (by omega), gI_o (by omega), h.mr.bs, nI_clamp (by omega)]
        refine ⟨vin (by omega) (by omega), ?_⟩
        rintro s6 rfl
        rw [gI_o (by omega), gI_o (by omega), gI_o (by omega), gI_o (by omega), gI_o (by omega), gI_o (by omega), h.mr.bs, nI_clamp (by omega)]
        refine ⟨vin (by omega) (by omega), ?_⟩
        rintro s7 rfl
        rw [gI_o (by omega), gI_o (by omega), gI_o (by omega), gI_o (by omega), gI_o (by omega), gI_o (by omega), gI_o (by omega), h.mr.bs]
        rintro s8 rfl
        rw [gI_s, nI_1, nI_pred, ← nI_1]
        exact p4 hdu bb f
    · rintro n i τ hi ⟨rfl, h0⟩ kk
      rw [wX12_belt_115_s, ee, ed]
      have hbi := hv.b hi
      refine df (by rw [h.mr.bs]; exact nI_ge hi (by omega)) ⟨vin (by omega) (by omega), ?_⟩
      rw [nI_clamp (by omega), (h.mr.b hi).2.2.1, nI_eq (by omega) (by omega)]
      by_cases z : W 12 i = e
      · refine dn z (p1 ?_)
        cases hh : du W (W 0 4) e with
        | none => exact absurd z (du_none hh i hi)
        | some k => exact ⟨k, rfl⟩
      · refine dm z ?_
        rintro v rfl
        rw [nI_1]
        refine kk _ ⟨rfl, fun j hj => ?_⟩
        rcases Nat.lt_or_ge j i with y | y
        · exact h0 j y
        · have : j = i := by omega
          subst this
          exact z
  -- the class
  rw [ee, ed, eB, eA]
  refine ⟨vin (by omega) (by omega), ?_⟩
  rw [nI_clamp (by omega), h.dx.2.2.2 e he0]
  cases hdu : du W (W 0 4) e with
  | some k =>
    have hk := du_some hdu
    exact dm (ne_m1 (by omega)) (rgo _ (fun _ => ⟨rfl, hrel⟩) (fun z => by rw [hdu] at z; exact absurd z (by simp)) (fun z => by rw [hdu] at z; exact absurd z (by simp)) (fun z => by rw [hdu] at z; exact absurd z (by simp)))
  | none =>
    have rs : ∀ P : Prop, (∃ k, du W (W 0 4) e = some k) → P := fun P ⟨k, z⟩ => by rw [hdu] at z; exact absurd z (by simp)
    refine dn rfl (sX_drives hv h.mx h.dx he0 hd0 (bI_d (fun bb => ?_) (fun bb => rgo _ (rs _) (fun _ _ => ⟨rfl, hrel⟩) (fun _ z => by rw [bb] at z; exact absurd z (by decide)) (fun _ z => by rw [bb] at z; exact absurd z (by decide)))))
    have rb : ∀ P : Prop, BH W e d = true → P := fun P z => by rw [bb] at z; exact absurd z (by decide)
    rw [h.mx.bs, e7]
    by_cases f : W 0 4 = 7
    · exact dn f (rgo _ (rs _) (fun _ z => rb _ z) (fun _ _ _ => ⟨rfl, hrel⟩) (fun _ _ z => absurd f z))
    · refine dm f ?_
      have hn : 72 + 8 * W 0 4 + kd ∉ ids := by
        intro z
        rcases h.fr.2.1 _ z with g1 | ⟨m, g1, g2⟩ | ⟨k, g1, g2⟩
        · omega
        · omega
        · have := (hv.b g1).1
          unfold bO at g2
          omega
      have hmem : 72 + 8 * W 0 4 + kd ∈ ids ++ [72 + 8 * W 0 4 + kd] := List.mem_append.mpr (Or.inr (List.mem_singleton.mpr rfl))
      have hok : okB (ids ++ [72 + 8 * W 0 4 + kd]) (72 + 8 * W 0 4 + kd) := ⟨hmem, by omega, by omega, by omega⟩
      have alloc : ∀ x, layX (72 + 8 * W 0 4 + kd) = (0, x) → (layX (72 + 8 * W 0 4 + kd) = (0, x) ∧ (∀ k, stX (72 + 8 * W 0 4 + kd) k = none) ∧ (72 + 8 * W 0 4 + kd) ∉ ids ∧ (∀ c ∈ ids, ∀ k, xR stX σ c k ≠ some (72 + 8 * W 0 4 + kd)) ∧ okB (ids ++ [72 + 8 * W 0 4 + kd]) (72 + 8 * W 0 4 + kd)) := fun x hx => ⟨hx, stX_hi (by omega), hn, fr_new h.fr (by omega) hn, hok⟩
      have fin : ∀ σ1, σ1 = nC σ (72 + 8 * W 0 4 + kd) → ∀ ids1, ids1 = ids ++ [72 + 8 * W 0 4 + kd] → wX0_init ids1 (72 + 8 * W 0 4 + kd) (nI kd) (nI d) (nI e) (nI g) σ1 (fun σ2 => (okB ids1 (72 + 8 * W 0 4 + kd)) ∧ wX6_putDrum ids1 (72 + 8 * W 0 4 + kd) (0 : Int32) (nI A) σ2 (fun σ1040 => wX6_putDrum ids1 (72 + 8 * W 0 4 + kd) (1 : Int32) (nI B) σ1040 (fun σ1041 => wX6_addBelt ids1 (72 + 8 * W 0 4 + kd) σ1041 (fun r1043 σ1042 => (fun r σ1 ids1 => wX12_belt (nI kd) (nI w2) (nI w3) (nI g) ρ (fun r2 ρ1 => r = r2 ∧ Rel ids1 σ1 ρ1)) r1043 σ1042 ids1)))) := by
        rintro σ1 rfl ids1 rfl s1 rfl s2 rfl s3 rfl s4 rfl s5 rfl
        refine ⟨hok, dn rfl ?_⟩
        rintro s6 rfl
        refine ⟨vin (by omega) (by omega), ?_⟩
        rw [nI_clamp (by omega)]
        have x10 : ∀ y, y < W 0 5 → gI (nC σ (72 + 8 * W 0 4 + kd)) 10 y = nI (W 20 y) := fun y hy => by rw [gI_nC, if_neg (by omega)]; exact h.dx.2.1 y hy
        rw [gI_o (by omega), gI_o (by omega), gI_o (by omega), gI_o (by omega), gI_o (by omega), gI_o (by omega), x10 A hA0]
        rintro s7 rfl
        refine dm (by decide) ?_
        rintro s8 rfl
        refine ⟨vin (by omega) (by omega), ?_⟩
        rw [nI_clamp (by omega), gI_o (by omega), gI_o (by omega), gI_o (by omega), gI_o (by omega), gI_o (by omega), gI_o (by omega), gI_o (by omega), gI_o (by omega), x10 B hB0]
        rintro s9 rfl
        have y13 : gI (uI (uI (uI (uI (uI (uI (uI (uI (uI (nC σ (72 + 8 * W 0 4 + kd)) (72 + 8 * W 0 4 + kd) 8 1) (72 + 8 * W 0 4 + kd) 0 (nI kd)) (72 + 8 * W 0 4 + kd) 1 (nI d)) (72 + 8 * W 0 4 + kd) 2 (nI e)) (72 + 8 * W 0 4 + kd) 3 (nI g)) (72 + 8 * W 0 4 + kd) 4 (nI A)) (72 + 8 * W 0 4 + kd) 6 (nI (W 20 A))) (72 + 8 * W 0 4 + kd) 5 (nI B)) (72 + 8 * W 0 4 + kd) 7 (nI (W 20 B))) 1 3 = nI (W 0 4) := by
          rw [gI_o (by omega), gI_o (by omega), gI_o (by omega), gI_o (by omega), gI_o (by omega), gI_o (by omega), gI_o (by omega), gI_o (by omega), gI_o (by omega), gI_nC, if_neg (by omega)]
          exact h.mx.bs
        have y2 : gI (uI (uI (uI (uI (uI (uI (uI (uI (uI (nC σ (72 + 8 * W 0 4 + kd)) (72 + 8 * W 0 4 + kd) 8 1) (72 + 8 * W 0 4 + kd) 0 (nI kd)) (72 + 8 * W 0 4 + kd) 1 (nI d)) (72 + 8 * W 0 4 + kd) 2 (nI e)) (72 + 8 * W 0 4 + kd) 3 (nI g)) (72 + 8 * W 0 4 + kd) 4 (nI A)) (72 + 8 * W 0 4 + kd) 6 (nI (W 20 A))) (72 + 8 * W 0 4 + kd) 5 (nI B)) (72 + 8 * W 0 4 + kd) 7 (nI (W 20 B))) (72 + 8 * W 0 4 + kd) 2 = nI e := by
          rw [gI_o (by omega), gI_o (by omega), gI_o (by omega), gI_o (by omega), gI_o (by omega), gI_s]
        simp only [wX6_putDrum_37, wX6_addBelt]
        rw [y13, nI_clamp (by omega)]
        refine ⟨vin (by omega) (by omega), ?_⟩
        rintro s10 rfl
        rw [gI_uR, gI_uR, y13, y2, nI_clamp (by omega)]
        refine ⟨vin (by omega) (by omega), ?_⟩
        rintro s11 rfl
        rw [gI_o (by omega), gI_uR, y13]
        rintro s12 rfl
        show wX6_orderBelts _ (blX σ (W 0 4) (72 + 8 * W 0 4 + kd) (nI kd) (nI d) (nI e) (nI A) (nI B) (nI g) (nI (W 20 A)) (nI (W 20 B)) e) _
        have bX : ∀ c j, ¬ c = 72 + 8 * W 0 4 + kd → ¬ (c = 5 ∧ j = e) → ¬ (c = 1 ∧ j = 3) → gI (blX σ (W 0 4) (72 + 8 * W 0 4 + kd) (nI kd) (nI d) (nI e) (nI A) (nI B) (nI g) (nI (W 20 A)) (nI (W 20 B)) e) c j = gI σ c j := fun c j h1 h2 h3 => blX_o (by omega) h1 h2 h3
        have w11 : ∀ k, k < W 0 4 → wbl W kd d e A B g (fun _ => 0) 11 k = W 11 k := fun k hk => wbl_o (by omega) (by omega) (by omega)
        have w12 : ∀ k, k < W 0 4 → wbl W kd d e A B g (fun _ => 0) 12 k = W 12 k := fun k hk => wbl_o (by omega) (by omega) (by omega)
        have w11n : wbl W kd d e A B g (fun _ => 0) 11 (W 0 4) = d := by rw [wbl_n (by omega)]; rfl
        have w12n : wbl W kd d e A B g (fun _ => 0) 12 (W 0 4) = e := by rw [wbl_n (by omega)]; rfl
        have ebk : ∀ k, k < W 0 4 → bO (wbl W kd d e A B g (fun _ => 0)) k = bO W k := fun k hk => bO_cg (wbl_o (by omega) (by omega) (by omega))
        have ebn : bO (wbl W kd d e A B g (fun _ => 0)) (W 0 4) = 72 + 8 * W 0 4 + kd := by
          unfold bO
          rw [wbl_n (by omega)]
          rfl
        have n13 : gI (blX σ (W 0 4) (72 + 8 * W 0 4 + kd) (nI kd) (nI d) (nI e) (nI A) (nI B) (nI g) (nI (W 20 A)) (nI (W 20 B)) e) 1 3 = nI (W 0 4 + 1) := by
          unfold blX
          rw [gI_s, nI_1]
        have br : ∀ k, k < W 0 4 → 72 ≤ bO W k ∧ bO W k < 72 + 8 * W 0 4 := by
          intro k hk
          have := (hv.b hk).1
          unfold bO
          omega
        have duo : ∀ s, ¬ s = e → du (wbl W kd d e A B g (fun _ => 0)) (W 0 4 + 1) s = du W (W 0 4) s := by
          intro s hs
          rw [du_s, w12n, if_neg (fun z => hs z.symm)]
          have : ∀ n, n ≤ W 0 4 → du (wbl W kd d e A B g (fun _ => 0)) n s = du W n s := by
            intro n
            induction n with
            | zero => intro _; rfl
            | succ n ih =>
              intro hn
              rw [du_s, du_s, ih (by omega), w12 n (by omega)]
          exact this _ (Nat.le_refl _)
        have dun : du (wbl W kd d e A B g (fun _ => 0)) (W 0 4 + 1) e = some (W 0 4) := by
          rw [du_s, w12n]
          exact if_pos rfl
        have hrk := belt_rank hv hdu bb
        refine sX_order (W := wbl W kd d e A B g (fun _ => 0)) (n := W 0 4 + 1) (by omega) n13 (fun k hk => ?_) (fun k hk => ?_) (fun j k hj hk => ?_) (fun s => if BH W e s = true then rk W s + 8 else rk W s) (fun k hk => ?_) (fun τ o t1 t2 o1 o2 o3 => ?_)
        · by_cases ek : k = W 0 4
          · subst ek
            rw [ebn, w11n, blX_r, if_pos ⟨rfl, rfl⟩, blX_n (by omega)]
            exact ⟨rfl, hok, rfl, by omega, by omega⟩
          · have bk := br k (by omega)
            have hbk := hv.b (k := k) (by omega)
            have hmk := h.mx.b (k := k) (by omega)
            have ok2 := h.mx.okB hv (k := k) (by omega)
            rw [ebk k (by omega), w11 k (by omega), blX_r, if_neg (by omega), if_neg (by omega), bX _ _ (by omega) (by omega) (by omega)]
            exact ⟨hmk.1, ⟨List.mem_append.mpr (Or.inl ok2.1), ok2.2⟩, hmk.2.2.2.1, by omega, bk.1⟩
        · have key : ∀ s, s < W 0 0 → gI (blX σ (W 0 4) (72 + 8 * W 0 4 + kd) (nI kd) (nI d) (nI e) (nI A) (nI B) (nI g) (nI (W 20 A)) (nI (W 20 B)) e) 5 s = oI (du (wbl W kd d e A B g (fun _ => 0)) (W 0 4 + 1) s) := by
            intro s hs
            by_cases es : s = e
            · rw [es, dun]
              unfold blX
              rw [gI_o (by omega), gI_s]
              rfl
            · rw [duo s es, bX _ _ (by omega) (by omega) (by omega)]
              exact h.dx.2.2.2 s hs
          refine key _ ?_
          by_cases ek : k = W 0 4
          · rw [ek, w11n]; exact hd0
          · rw [w11 k (by omega)]
            exact (hv.b (k := k) (by omega)).2.1
        · have nd := du_none hdu
          by_cases ej : j = W 0 4
          · by_cases ek : k = W 0 4
            · intro _; omega
            · rw [ej, w12n, w12 k (by omega)]
              intro z
              exact absurd z.symm (nd k (by omega))
          · by_cases ek : k = W 0 4
            · rw [ek, w12n, w12 j (by omega)]
              intro z
              exact absurd z (nd j (by omega))
            · rw [w12 j (by omega), w12 k (by omega)]
              exact hv.dj (by omega) (by omega)
        · by_cases ek : k = W 0 4
          · rw [ek, w11n, w12n]
            exact hrk.2
          · rw [w11 k (by omega), w12 k (by omega)]
            exact hrk.1 k (by omega)
        · rw [t1 _ _ (by omega), n13, nI_pred]
          exact rgo _ (rs _) (fun _ z => rb _ z) (fun _ _ z => absurd z f) (fun _ _ _ => ⟨rfl, (belt_up h (by omega) hkd hd0 he0 he1 hA0 hB0 hAB hg1 hg hdu t1 t2 o1 o2 o3).rel⟩)
      have hlay := layX_B (K := W 0 4) hkd
      rintro v rfl
      have : kd = 0 ∨ kd = 1 ∨ kd = 2 ∨ kd = 3 ∨ kd = 4 ∨ kd = 5 := by omega
      rcases this with rfl | rfl | rfl | rfl | rfl | rfl
      · exact ⟨fun c => absurd c (by decide), fun c => absurd c (by decide), fun c => absurd c (by decide), fun c => absurd c (by decide), fun c => absurd c (by decide), fun _ => ⟨alloc _ hlay, fin⟩⟩
      · exact ⟨fun _ => ⟨alloc _ hlay, fin⟩, fun c => absurd c (by decide), fun c => absurd c (by decide), fun c => absurd c (by decide), fun c => absurd c (by decide), fun c => absurd rfl c.1⟩
      · exact ⟨fun c => absurd c (by decide), fun _ => ⟨alloc _ hlay, fin⟩, fun c => absurd c (by decide), fun c => absurd c (by decide), fun c => absurd c (by decide), fun c => absurd rfl c.2.1⟩
      · exact ⟨fun c => absurd c (by decide), fun c => absurd c (by decide), fun _ => ⟨alloc _ hlay, fin⟩, fun c => absurd c (by decide), fun c => absurd c (by decide), fun c => absurd rfl c.2.2.1⟩
      · exact ⟨fun c => absurd c (by decide), fun c => absurd c (by decide), fun c => absurd c (by decide), fun _ => ⟨alloc _ hlay, fin⟩, fun c => absurd c (by decide), fun c => absurd rfl c.2.2.2.1⟩
      · exact ⟨fun c => absurd c (by decide), fun c => absurd c (by decide), fun c => absurd c (by decide), fun c => absurd c (by decide), fun _ => ⟨alloc _ hlay, fin⟩, fun c => absurd rfl c.2.2.2.2⟩
