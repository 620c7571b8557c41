/-! PURE: the class's spin, what hangs on a shaft -/
theorem gJ_o {τ : St} {c k a b : Nat} {v : Int64} (h : ¬ (a = c ∧ b = k)) : gJ (uJ τ c k v) a b = gJ τ a b := if_neg h
theorem gJ_s {τ : St} {c k : Nat} {v : Int64} : gJ (uJ τ c k v) c k = v := if_pos ⟨rfl, rfl⟩
theorem gI_o {τ : St} {c k a b : Nat} {v : Int32} (h : ¬ (a = c ∧ b = k)) : gI (uI τ c k v) a b = gI τ a b := if_neg h
theorem gI_s {τ : St} {c k : Nat} {v : Int32} : gI (uI τ c k v) c k = v := if_pos ⟨rfl, rfl⟩
theorem sB_above {W : Vw} {ids : List Nat} {σ : St} (hv : Iv W) (hM : MX W ids σ) {k : Nat} (hk : k < W 0 4) {post : Int32 → St → Prop} (h : post (nI (av W k)) σ) : wB_above ids (bO W k) σ post := by
  have hr := bO_r hv hk
  obtain ⟨-, -, b0, b1, b2, b3, b6, b7, b8⟩ := hM.b hk
  refine ⟨fun c => ?_, fun c => ?_⟩
  · show post (gI σ (bO W k) 6) σ
    have e : av W k = W 15 k := by unfold av; rw [if_neg (by omega)]; rfl
    rw [b6, ← e]
    exact h
  · show post (gI σ (bO W k) 6 + 2) σ
    have e : av W k = W 15 k + 2 := by unfold av; rw [if_pos (by omega)]
    have e2 : (2 : Int32) = nI 2 := rfl
    rw [b6, e2, nI_add, ← e]
    exact h
theorem sB_way {W : Vw} {ids : List Nat} {σ : St} (hv : Iv W) {k : Nat} (hk : k < W 0 4) {post : Int32 → St → Prop} (h : post (iI (wy W k)) σ) : wB_way ids (bO W k) σ post := by
  have hr := bO_r hv hk
  refine ⟨fun c => ?_, fun c => ?_, fun c => ?_⟩
  · have e : wy W k = 1 := by unfold wy; rw [if_neg (by omega)]
    rw [e] at h
    exact h
  · have e : wy W k = -1 := by unfold wy; rw [if_pos (by omega)]
    rw [e] at h
    exact h
  · have e : wy W k = 1 := by unfold wy; rw [if_neg (by omega)]
    rw [e] at h
    exact h
def vs (τ : St) (s : Nat) (t : Nat × Nat × Int) : Prop := gJ τ 6 s = lN t.1 ∧ gJ τ 7 s = lN t.2.1 ∧ gI τ 8 s = iI t.2.2
/-- a shaft whose turns stand after i belts of the order -/
def dnn (W : Vw) (i s : Nat) : Prop := s = 0 ∨ dv W (W 0 4) s = none ∨ ∃ j, j < i ∧ W 12 (W 17 j) = s
theorem dnn_all {W : Vw} (hv : Iv W) (s : Nat) : dnn W (W 0 4) s := by
  cases h : dv W (W 0 4) s with
  | none => exact Or.inr (Or.inl h)
  | some k =>
    have hk := dv_some h
    obtain ⟨i, hi, e⟩ := hv.os hk.1
    exact Or.inr (Or.inr ⟨i, hi, by rw [e]; exact hk.2.1⟩)
theorem dnn_driver {W : Vw} (hv : Iv W) {i : Nat} (hi : i < W 0 4) : dnn W i (W 11 (W 17 i)) := by
  cases h : dv W (W 0 4) (W 11 (W 17 i)) with
  | none => exact Or.inr (Or.inl h)
  | some k =>
    have hk := dv_some h
    obtain ⟨j, hj, e⟩ := hv.ot hi hk.1 hk.2.1
    exact Or.inr (Or.inr ⟨j, hj, by rw [e]; exact hk.2.1⟩)
theorem dnn_s {W : Vw} {i s : Nat} : dnn W (i + 1) s ↔ (dnn W i s ∨ s = W 12 (W 17 i)) := by
  unfold dnn
  constructor
  · rintro (h | h | ⟨j, hj, e⟩)
    · exact Or.inl (Or.inl h)
    · exact Or.inl (Or.inr (Or.inl h))
    · rcases Nat.lt_or_ge j i with g | g
      · exact Or.inl (Or.inr (Or.inr ⟨j, g, e⟩))
      · have : j = i := by omega
        subst this
        exact Or.inr e.symm
  · rintro ((h | h | ⟨j, hj, e⟩) | h)
    · exact Or.inl h
    · exact Or.inr (Or.inl h)
    · exact Or.inr (Or.inr ⟨j, by omega, e⟩)
    · exact Or.inr (Or.inr ⟨i, by omega, h.symm⟩)
theorem dv_off {W : Vw} (hv : Iv W) {k : Nat} (hk : k < W 0 4) (off : ¬ W 14 k = 1) : dv W (W 0 4) (W 12 k) = none := by
  cases h : dv W (W 0 4) (W 12 k) with
  | none => rfl
  | some j =>
    have := dv_some h
    rw [hv.dj this.1 hk this.2.1] at this
    exact absurd this.2.2 off
/-- equal but for the ways (and longs) -/
def Eq8 (σ τ : St) : Prop := (∀ c k, gR τ c k = gR σ c k) ∧ ∀ c k, ¬ c = 8 → gI τ c k = gI σ c k
theorem Eq8.rf (σ : St) : Eq8 σ σ := ⟨fun _ _ => rfl, fun _ _ _ => rfl⟩
theorem Eq8.tr {σ τ υ : St} (h : Eq8 σ τ) (g : Eq8 τ υ) : Eq8 σ υ := ⟨fun c k => (g.1 c k).trans (h.1 c k), fun c k n => (g.2 c k n).trans (h.2 c k n)⟩
theorem Eq8.x {σ τ : St} (h : Eq8 σ τ) : EqX σ τ := ⟨h.1, fun c k n => h.2 c k (fun z => n (Or.inl z))⟩
theorem Eq8.uJ {σ τ : St} (h : Eq8 σ τ) {c k : Nat} {v : Int64} : Eq8 σ (uJ τ c k v) := ⟨h.1, h.2⟩
theorem Eq8.uI {σ τ : St} (h : Eq8 σ τ) {k : Nat} {v : Int32} : Eq8 σ (uI τ 8 k v) := ⟨h.1, fun a b n => by rw [gI_uI, if_neg (fun z => n z.1), h.2 a b n]⟩
theorem sX_spin57 {W : Vw} {ids : List Nat} {σ : St} (hv : Iv W) (hM : MX W ids σ) (h0 : ∀ s, s < W 0 0 → vs σ s (if s = 0 then (W 0 1, 1, 1) else (0, 1, 0))) {post : St → Prop} (h : ∀ τ, Eq8 σ τ → SX W ids τ → post τ) : ∃ N, wX6_spin_57 ids post N 0 σ := by
  have hc := hv.c
  refine lpc1 (wX6_spin_57 ids post) (W 0 4) (by omega) (fun i τ => Eq8 σ τ ∧ ∀ s, s < W 0 0 → (dnn W i s → vs τ s (T W s)) ∧ (¬ dnn W i s → vs τ s (0, 1, 0))) ?_ ?_ σ ⟨Eq8.rf σ, fun s hs => ⟨fun d => ?_, fun d => ?_⟩⟩
  · rintro n τ ⟨he, hz⟩
    rw [wX6_spin_57_s]
    have hM1 := hM.eq hv he.x
    refine dt (by rw [hM1.bs]; exact nI_le (Nat.le_refl _) (by omega)) ?_
    exact h τ he ⟨hM1, fun s hs => (hz s hs).1 (dnn_all hv s)⟩
  · rintro n i τ hi ⟨he, hz⟩ kk
    rw [wX6_spin_57_s]
    have hM1 := hM.eq hv he.x
    have hk := hv.ol hi
    have hb := hv.b hk
    obtain ⟨br, -, b0, b1, b2, b3, b6, b7, b8⟩ := hM1.b hk
    refine df (by rw [hM1.bs]; exact nI_ge hi (by omega)) ⟨vin (by omega) (by omega), ?_⟩
    rw [nI_clamp (by omega), hM1.o hi, nI_clamp (by omega)]
    refine ⟨vin (by omega) (by omega), bO W (W 17 i), br, hM1.okB hv hk, ?_⟩
    rw [b8, one_or hb.2.2.2.2.2.2.1]
    by_cases on : W 14 (W 17 i) = 1
    · refine df (by simp [on]) ⟨by rw [b1]; exact vin (by omega) (by omega), ?_⟩
      refine sB_above hv hM1 hk ⟨by rw [b2]; exact vin (by omega) (by omega), ?_⟩
      have hp := (hz (W 11 (W 17 i)) hb.2.1).1 (dnn_driver hv hi)
      obtain ⟨p1, p2, p3⟩ := hp
      have ha : av W (W 17 i) < 2 ^ 31 := by unfold av; split <;> omega
      have hT := T_on hv hk on
      rw [b1, b2, nI_clamp (by omega), nI_clamp (by omega), p1, nI_l ha, lN_mul]
      rintro τ1 rfl
      have e1 : Eq8 σ (uJ τ 6 (W 12 (W 17 i)) (lN ((T W (W 11 (W 17 i))).1 * av W (W 17 i)))) := he.uJ
      have hM2 := hM.eq hv e1.x
      obtain ⟨-, -, -, c1, c2, -, -, c7, -⟩ := hM2.b hk
      refine ⟨by rw [c1]; exact vin (by omega) (by omega), ?_⟩
      unfold wX0_below
      refine ⟨by rw [c2]; exact vin (by omega) (by omega), ?_⟩
      rw [c1, c2, c7, nI_clamp (by omega), nI_clamp (by omega), gJ_o (by omega), p2, nI_l (by omega), lN_mul]
      rintro τ2 rfl
      have e2 := e1.uJ (c := 7) (k := W 12 (W 17 i)) (v := lN ((T W (W 11 (W 17 i))).2.1 * W 16 (W 17 i)))
      have hM3 := hM.eq hv e2.x
      obtain ⟨-, -, -, d1, d2, -, -, -, -⟩ := hM3.b hk
      refine ⟨by rw [d1]; exact vin (by omega) (by omega), ?_⟩
      refine sB_way hv hk ⟨by rw [d2]; exact vin (by omega) (by omega), ?_⟩
      rw [d1, d2, nI_clamp (by omega), nI_clamp (by omega), gI_uJ, gI_uJ, p3, iI_mul]
      rintro τ3 rfl v1 rfl
      rw [nI_1]
      refine kk _ ⟨e2.uI, fun s hs => ?_⟩
      by_cases es : s = W 12 (W 17 i)
      · subst es
        refine ⟨fun _ => ?_, fun d => absurd (dnn_s.mpr (Or.inr rfl)) d⟩
        rw [hT]
        refine ⟨?_, ?_, ?_⟩
        · rw [gJ_uI, gJ_o (by omega), gJ_s]
        · rw [gJ_uI, gJ_s]
        · rw [gI_s]
      · have q : ∀ t, vs τ s t → vs (uI (uJ (uJ τ 6 (W 12 (W 17 i)) (lN ((T W (W 11 (W 17 i))).1 * av W (W 17 i)))) 7 (W 12 (W 17 i)) (lN ((T W (W 11 (W 17 i))).2.1 * W 16 (W 17 i)))) 8 (W 12 (W 17 i)) (iI ((T W (W 11 (W 17 i))).2.2 * wy W (W 17 i)))) s t := by
          rintro t ⟨t1, t2, t3⟩
          refine ⟨?_, ?_, ?_⟩
          · rw [gJ_uI, gJ_o (by omega), gJ_o (by omega)]; exact t1
          · rw [gJ_uI, gJ_o (by omega), gJ_o (by omega)]; exact t2
          · rw [gI_o (by omega), gI_uJ, gI_uJ]; exact t3
        refine ⟨fun d => q _ ((hz s hs).1 ?_), fun d => q _ ((hz s hs).2 (fun z => d (dnn_s.mpr (Or.inl z))))⟩
        rcases dnn_s.mp d with z | z
        · exact z
        · exact absurd z es
    · refine dt on ?_
      rintro v1 rfl
      rw [nI_1]
      refine kk _ ⟨he, fun s hs => ⟨fun d => (hz s hs).1 ?_, fun d => (hz s hs).2 (fun z => d (dnn_s.mpr (Or.inl z)))⟩⟩
      rcases dnn_s.mp d with z | z
      · exact z
      · rw [z]
        exact Or.inr (Or.inl (dv_off hv hk on))
  · have := h0 s hs
    rcases d with d | d | ⟨j, hj, -⟩
    · rw [if_pos d] at this
      rw [d, T_0]
      rw [d] at this
      exact this
    · by_cases z : s = 0
      · rw [if_pos z] at this
        rw [z, T_0]
        rw [z] at this
        exact this
      · rw [if_neg z] at this
        rw [T_none z d]
        exact this
    · omega
  · have := h0 s hs
    rw [if_neg (fun z => d (Or.inl z))] at this
    exact this
theorem sX_spin8 {W : Vw} {ids : List Nat} {σ : St} (hv : Iv W) (hM : MX W ids σ) {post : St → Prop} (h : ∀ τ, Eq8 σ τ → SX W ids τ → post τ) : wX6_spin ids σ post := by
  have hc := hv.c
  refine lpc1 (wX6_spin_2 ids post) (W 0 0) (by omega) (fun i τ => Eq8 σ τ ∧ ∀ s, s < i → vs τ s (0, 1, 0)) ?_ ?_ σ ⟨Eq8.rf σ, fun s hs => absurd hs (Nat.not_lt_zero _)⟩
  · rintro n τ ⟨he, hz⟩
    rw [wX6_spin_2_s]
    have hM1 := hM.eq hv he.x
    refine dt (by rw [hM1.sh]; exact nI_le (Nat.le_refl _) (by omega)) ⟨vin (i := 0) (by omega) (by omega), ?_⟩
    rw [hM1.et, nI_l (by omega)]
    rintro τ1 rfl τ2 rfl
    have e1 : Eq8 σ (uI (uJ τ 6 (0 : Int32).toNatClampNeg (lN (W 0 1))) 8 (0 : Int32).toNatClampNeg 1) := he.uJ.uI
    refine sX_spin57 hv (hM.eq hv e1.x) (fun s hs => ?_) (fun υ h1 h2 => h υ (e1.tr h1) h2)
    obtain ⟨z1, z2, z3⟩ := hz s hs
    have ez : (0 : Int32).toNatClampNeg = 0 := by decide
    rw [ez]
    by_cases s0 : s = 0
    · subst s0
      rw [if_pos rfl]
      refine ⟨?_, ?_, ?_⟩
      · rw [gJ_uI, gJ_s]
      · rw [gJ_uI, gJ_o (by omega)]; exact z2
      · rw [gI_s]; rfl
    · rw [if_neg s0]
      refine ⟨?_, ?_, ?_⟩
      · rw [gJ_uI, gJ_o (by omega)]; exact z1
      · rw [gJ_uI, gJ_o (by omega)]; exact z2
      · rw [gI_o (by omega), gI_uJ]; exact z3
  · rintro n i τ hi ⟨he, hz⟩ kk
    rw [wX6_spin_2_s]
    have hM1 := hM.eq hv he.x
    refine df (by rw [hM1.sh]; exact nI_ge hi (by omega)) ⟨vin (by omega) (by omega), ?_⟩
    rw [nI_clamp (by omega)]
    rintro τ1 rfl τ2 rfl τ3 rfl v1 rfl
    rw [nI_1]
    refine kk _ ⟨he.uJ.uJ.uI, fun s hs => ?_⟩
    by_cases es : s = i
    · subst es
      refine ⟨?_, ?_, ?_⟩
      · rw [gJ_uI, gJ_o (by omega), gJ_s]; rfl
      · rw [gJ_uI, gJ_s]; rfl
      · rw [gI_s]; rfl
    · obtain ⟨z1, z2, z3⟩ := hz s (by omega)
      refine ⟨?_, ?_, ?_⟩
      · rw [gJ_uI, gJ_o (by omega), gJ_o (by omega)]; exact z1
      · rw [gJ_uI, gJ_o (by omega), gJ_o (by omega)]; exact z2
      · rw [gI_o (by omega), gI_uJ, gI_uJ]; exact z3
theorem sX_spin {W : Vw} {ids : List Nat} {σ : St} (hv : Iv W) (hM : MX W ids σ) {post : St → Prop} (h : ∀ τ, EqX σ τ → SX W ids τ → post τ) : wX6_spin ids σ post := sX_spin8 hv hM (fun τ e s => h τ e.x s)
