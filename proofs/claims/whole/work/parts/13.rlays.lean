/-! PURE: the reference lays the turns out -/
theorem lpq1 {A1 : Type} (W : Nat → A1 → St → Prop) (I : Nat → A1 → St → Prop) (hs : ∀ (n m : Nat) (a : A1) (σ : St), I m a σ → (∀ (m' : Nat) (b : A1) (τ : St), I m' b τ → m' < m → W n b τ) → W (n + 1) a σ) (m : Nat) (a : A1) (σ : St) (h : I m a σ) : ∃ n, W n a σ := by
  have key : ∀ (n m : Nat) (a : A1) (σ : St), I m a σ → m < n → W n a σ := by
    intro n
    induction n with
    | zero => intro m a σ _ h; exact absurd h (Nat.not_lt_zero _)
    | succ n ih => intro m a σ hI hm; exact hs n m a σ hI (fun m' b τ hb hlt => ih m' b τ hb (by omega))
  exact ⟨m + 1, key _ m a σ h (Nat.lt_succ_self _)⟩
theorem ct_dr {n j : Nat} {p q : Nat → Bool} (hj : j < n) (h : ∀ i, i ≠ j → p i = q i) (pj : p j = true) (qj : q j = false) : ct n p = ct n q + 1 := by
  induction n with
  | zero => exact absurd hj (Nat.not_lt_zero _)
  | succ n ih =>
    rw [ct_s, ct_s]
    rcases Nat.lt_or_ge j n with g | g
    · rw [ih g, h n (by omega)]
      omega
    · have : j = n := by omega
      subst this
      rw [ct_cg (q := q) (fun i hi => h i (by omega)), pj, qj]
      simp
theorem ct_mono {n : Nat} {p q : Nat → Bool} (h : ∀ i, i < n → p i = true → q i = true) : ct n p ≤ ct n q := by
  induction n with
  | zero => exact Nat.le_refl 0
  | succ n ih =>
    rw [ct_s, ct_s]
    have a := ih (fun i hi => h i (by omega))
    have b := h n (Nat.lt_succ_self n)
    cases hp : p n
    · simp; split <;> omega
    · rw [b hp]; simp; exact a
theorem gcd_red (n d x y : Nat) (hd : 0 < d) : (n * x) / Nat.gcd (n * x) (d * y) = (n / Nat.gcd n d * x) / Nat.gcd (n / Nat.gcd n d * x) (d / Nat.gcd n d * y) ∧ (d * y) / Nat.gcd (n * x) (d * y) = (d / Nat.gcd n d * y) / Nat.gcd (n / Nat.gcd n d * x) (d / Nat.gcd n d * y) := by
  have hg : 0 < Nat.gcd n d := Nat.gcd_pos_of_pos_right n hd
  have e1 : Nat.gcd n d * (n / Nat.gcd n d) = n := Nat.mul_div_cancel' (Nat.gcd_dvd_left n d)
  have e2 : Nat.gcd n d * (d / Nat.gcd n d) = d := Nat.mul_div_cancel' (Nat.gcd_dvd_right n d)
  have h1 : n * x = Nat.gcd n d * (n / Nat.gcd n d * x) := by rw [← Nat.mul_assoc, e1]
  have h2 : d * y = Nat.gcd n d * (d / Nat.gcd n d * y) := by rw [← Nat.mul_assoc, e2]
  have h3 : Nat.gcd (n * x) (d * y) = Nat.gcd n d * Nat.gcd (n / Nat.gcd n d * x) (d / Nat.gcd n d * y) := by
    rw [← Nat.gcd_mul_left, ← h1, ← h2]
  constructor
  · rw [h3]
    conv => lhs; rw [h1]
    exact Nat.mul_div_mul_left _ _ hg
  · rw [h3]
    conv => lhs; rw [h2]
    exact Nat.mul_div_mul_left _ _ hg
def gT (W : Vw) (s : Nat) : Nat := Nat.gcd (T W s).1 (T W s).2.1
def rA (W : Vw) (s : Nat) : Nat := (T W s).1 / gT W s
def rB (W : Vw) (s : Nat) : Nat := (T W s).2.1 / gT W s
theorem gT_p {W : Vw} (hv : Iv W) (s : Nat) : 0 < gT W s := Nat.gcd_pos_of_pos_right _ (T_p hv s)
theorem rA_e (W : Vw) (s : Nat) : gT W s * rA W s = (T W s).1 := Nat.mul_div_cancel' (Nat.gcd_dvd_left _ _)
theorem rB_e (W : Vw) (s : Nat) : gT W s * rB W s = (T W s).2.1 := Nat.mul_div_cancel' (Nat.gcd_dvd_right _ _)
theorem rA_l (W : Vw) (s : Nat) : rA W s ≤ (T W s).1 := Nat.div_le_self _ _
theorem rB_l (W : Vw) (s : Nat) : rB W s ≤ (T W s).2.1 := Nat.div_le_self _ _
theorem rB_p {W : Vw} (hv : Iv W) (s : Nat) : 0 < rB W s := by
  rcases Nat.eq_zero_or_pos (rB W s) with z | z
  · have h1 := rB_e W s
    have h2 := T_p hv s
    rw [z] at h1
    omega
  · exact z
theorem rA_b {W : Vw} (hv : Iv W) (s : Nat) : rA W s < 2 ^ 63 := Nat.lt_of_le_of_lt (rA_l W s) (T_b1 hv s)
theorem rB_b {W : Vw} (hv : Iv W) (s : Nat) : rB W s < 2 ^ 63 := Nat.lt_of_le_of_lt (rB_l W s) (T_b2 hv s)
def rT (W : Vw) (s : Nat) : Nat × Nat × Int := (rA W s, rB W s, (T W s).2.2)
theorem rT_0 (W : Vw) : rT W 0 = (W 0 1, 1, 1) := by
  unfold rT rA rB gT
  rw [T_0]
  simp
theorem rT_z {W : Vw} (hv : Iv W) {s : Nat} (h : (T W s).1 = 0) : rT W s = (0, 1, 0) := by
  have h1 := (T_bd hv s).2.2.2.1.mp h
  have h2 := T_p hv s
  unfold rT rA rB gT
  rw [h, h1, Nat.gcd_zero_left, Nat.zero_div, Nat.div_self h2]
theorem rT_n {W : Vw} (hv : Iv W) {s : Nat} (h0 : ¬ s = 0) (h : dv W (W 0 4) s = none) : rT W s = (0, 1, 0) := rT_z hv (by rw [T_none h0 h])
theorem rT_on {W : Vw} (hv : Iv W) {k : Nat} (hk : k < W 0 4) (on : W 14 k = 1) : rA W (W 12 k) = rA W (W 11 k) * av W k / Nat.gcd (rA W (W 11 k) * av W k) (rB W (W 11 k) * W 16 k) ∧ rB W (W 12 k) = rB W (W 11 k) * W 16 k / Nat.gcd (rA W (W 11 k) * av W k) (rB W (W 11 k) * W 16 k) := by
  have h := gcd_red (T W (W 11 k)).1 (T W (W 11 k)).2.1 (av W k) (W 16 k) (T_p hv _)
  have e := T_on hv hk on
  constructor
  · unfold rA gT
    rw [e]
    exact h.1
  · unfold rB gT
    rw [e]
    exact h.2
/-- the reference's shaft turns so -/
def vR (τ : St) (s : Nat) (t : Nat × Nat × Int) : Prop := gJ τ 20 s = lN t.1 ∧ gJ τ 21 s = lN t.2.1 ∧ gI τ 22 s = iI t.2.2
def SR (W : Vw) (τ : St) : Prop := MR W τ ∧ ∀ s, s < 8 → vR τ s (rT W s)
/-- equal but for scratch, and the turns -/
def EqT (σ τ : St) : Prop := EqR σ τ ∧ (∀ c k, gJ τ c k = gJ σ c k) ∧ ∀ k, gI τ 22 k = gI σ 22 k
theorem EqT.rf (σ : St) : EqT σ σ := ⟨EqR.rf σ, fun _ _ => rfl, fun _ => rfl⟩
theorem EqT.tr {σ τ υ : St} (h : EqT σ τ) (g : EqT τ υ) : EqT σ υ := ⟨h.1.tr g.1, fun c k => (g.2.1 c k).trans (h.2.1 c k), fun k => (g.2.2 k).trans (h.2.2 k)⟩
theorem SR.eq {W : Vw} {σ τ : St} (h : SR W σ) (e : EqT σ τ) : SR W τ := by
  refine ⟨h.1.eq e.1, fun s hs => ?_⟩
  unfold vR
  rw [e.2.1, e.2.1, e.2.2]
  exact h.2 s hs
theorem sR_sizeA {W : Vw} {ρ : St} (hv : Iv W) (hR : MR W ρ) {k : Nat} (hk : k < W 0 4) {post : Int32 → St → Prop} (h : post (nI (W 15 k)) ρ) : wX12_sizeA (nI k) ρ post := by
  have hc := hv.c
  obtain ⟨r1, r2, r3, r4, r5, ⟨d, hd, e1, e2⟩, r7⟩ := hR.b hk
  refine ⟨vin (by omega) (by omega), ?_, ?_⟩
  · rw [nI_clamp (by omega), e1]
    exact vin hd (by omega)
  · rw [nI_clamp (by omega), e1, nI_clamp (by omega), e2]
    exact h
theorem sR_sizeB {W : Vw} {ρ : St} (hv : Iv W) (hR : MR W ρ) {k : Nat} (hk : k < W 0 4) {post : Int32 → St → Prop} (h : post (nI (W 16 k)) ρ) : wX12_sizeB (nI k) ρ post := by
  have hc := hv.c
  obtain ⟨r1, r2, r3, r4, r5, r6, r7, r8⟩ := hR.b hk
  refine ⟨fun c => ?_, fun c => ?_⟩
  · obtain ⟨d, hd, e1, e2⟩ := r7 c
    refine ⟨vin (by omega) (by omega), ?_, ?_⟩
    · rw [nI_clamp (by omega), e1]
      exact vin hd (by omega)
    · rw [nI_clamp (by omega), e1, nI_clamp (by omega), e2]
      exact h
  · show post (gI ρ 0 30) ρ
    rw [r8 c]
    exact h
theorem sR_common {ρ : St} {a b : Nat} (ha : a < 2 ^ 63) (hb : b < 2 ^ 63) {post : Int64 → St → Prop} (h : post (lN (Nat.gcd a b)) ρ) : wX12_common (lN a) (lN b) ρ post := by
  have key := lpq1 (A1 := Int64 × Int64) (fun n p τ => wX12_common_6 post n p.1 p.2 τ) (fun m p τ => τ = ρ ∧ ∃ x, x < 2 ^ 63 ∧ m < 2 ^ 63 ∧ p = (lN x, lN m) ∧ Nat.gcd x m = Nat.gcd a b) ?_ b (lN a, lN b) ρ ⟨rfl, a, ha, hb, rfl, rfl⟩
  · exact key
  · rintro n m p τ ⟨rfl, x, hx, hm, rfl, hg⟩ kk
    show wX12_common_6 post (n + 1) (lN x) (lN m) τ
    rw [wX12_common_6_s, lg_cmp_eq, lN_0, lN_eqI hm (by decide)]
    by_cases z : m = 0
    · refine dt z ?_
      subst z
      rw [Nat.gcd_zero_right] at hg
      rw [hg]
      exact h
    · refine df z ⟨z, ?_⟩
      rintro v3 rfl
      rw [lN_rem hx hm]
      have hl : x % m < m := Nat.mod_lt _ (by omega)
      refine kk (x % m) (lN m, lN (x % m)) τ ⟨rfl, m, hm, by omega, rfl, ?_⟩ hl
      rw [← hg, Nat.gcd_comm x m, Nat.gcd_rec m x, Nat.gcd_comm]
theorem vR_u {τ : St} {s c k : Nat} {t : Nat × Nat × Int} {v : Int32} (h : vR τ s t) (hn : ¬ (c = 22 ∧ k = s)) : vR (uI τ c k v) s t := by
  refine ⟨h.1, h.2.1, ?_⟩
  rw [gI_o (by omega)]
  exact h.2.2
def zc (τ : St) : Nat := ct 8 (fun s => decide (gI τ 22 s = 0))
/-- equal but for the ways (and longs) -/
def Eq22 (σ τ : St) : Prop := ∀ c k, ¬ c = 22 → gI τ c k = gI σ c k
theorem Eq22.rf (σ : St) : Eq22 σ σ := fun _ _ _ => rfl
theorem Eq22.tr {σ τ υ : St} (h : Eq22 σ τ) (g : Eq22 τ υ) : Eq22 σ υ := fun c k n => (g c k n).trans (h c k n)
theorem Eq22.x {σ τ : St} (h : Eq22 σ τ) : EqR σ τ := fun c k n => h c k (fun z => n (Or.inl z))
theorem Eq22.uJ {σ τ : St} (h : Eq22 σ τ) {c k : Nat} {v : Int64} : Eq22 σ (uJ τ c k v) := h
theorem Eq22.uI {σ τ : St} (h : Eq22 σ τ) {k : Nat} {v : Int32} : Eq22 σ (uI τ 22 k v) := fun a b n => by rw [gI_uI, if_neg (fun z => n z.1), h a b n]
theorem sR_lays57 {W : Vw} {ρ : St} (hv : Iv W) (hR : MR W ρ) (h0 : ∀ s, s < 8 → vR ρ s (if s = 0 then (W 0 1, 1, 1) else (0, 1, 0))) {post : St → Prop} (h : ∀ τ, Eq22 ρ τ → SR W τ → post τ) : ∃ N, wX12_lays_57 post N 1 ρ := by
  have hc := hv.c
  have iz : ∀ s, iI (T W s).2.2 = 0 ↔ (T W s).2.2 = 0 := fun s => iI_z (T_bd hv s).2.2.2.2
  refine lpq1 (A1 := Int32) (fun n a τ => wX12_lays_57 post n a τ) (fun m a τ => (Eq22 ρ τ ∧ (∀ s, s < 8 → vR τ s (rT W s) ∨ vR τ s (0, 1, 0)) ∧ vR τ 0 (rT W 0)) ∧ ((a = 0 ∧ (∀ k, k < W 0 4 → W 14 k = 1 → ¬ gI τ 22 (W 11 k) = 0 → ¬ gI τ 22 (W 12 k) = 0) ∧ m = 2 * zc τ) ∨ (a = 1 ∧ m = 2 * zc τ + 1))) ?_ (2 * zc ρ + 1) 1 ρ ⟨⟨Eq22.rf ρ, ?_, ?_⟩, Or.inr ⟨rfl, rfl⟩⟩
  · rintro n m a τ ⟨⟨he, hu, h00⟩, hm⟩ kk
    show wX12_lays_57 post (n + 1) a τ
    rw [wX12_lays_57_s]
    have hR1 := hR.eq he.x
    rcases hm with ⟨rfl, hsat, rfl⟩ | ⟨rfl, rfl⟩
    · refine dt rfl (h τ he ⟨hR1, ?_⟩)
      have key : ∀ r s, rk W s < r → s < 8 → vR τ s (rT W s) := by
        intro r
        induction r with
        | zero => intro s h; exact absurd h (Nat.not_lt_zero _)
        | succ r ih =>
          intro s hr hs
          have both : rT W s = (0, 1, 0) → vR τ s (rT W s) := by
            intro e
            rcases hu s hs with g | g
            · exact g
            · rw [e]; exact g
          by_cases s0 : s = 0
          · rw [s0]; exact h00
          · cases hd : dv W (W 0 4) s with
            | none => exact both (rT_n hv s0 hd)
            | some k =>
              have hk := dv_some hd
              have hb := hv.b hk.1
              have hr1 := rk_lt hv hk.1
              rw [hk.2.1] at hr1
              have hd1 := ih (W 11 k) (by omega) (by omega)
              have hT := T_some hv hd
              by_cases z : gI τ 22 (W 11 k) = 0
              · rw [hd1.2.2] at z
                have z1 := (iz _).mp z
                have z2 := (T_bd hv (W 11 k)).2.2.2.1.mpr z1
                exact both (rT_z hv (by rw [hT, z2]; exact Nat.zero_mul _))
              · have := hsat k hk.1 hk.2.2 z
                rw [hk.2.1] at this
                rcases hu s hs with g | g
                · exact g
                · exact absurd g.2.2 this
      exact fun s hs => key 8 s (by have := rk_7 hv s; omega) hs
    · refine df (by decide) ?_
      refine lpc2 (wX12_lays_65 (wX12_lays_57 post n) post) (W 0 4) (by omega) (fun i v υ => (Eq22 ρ υ ∧ (∀ s, s < 8 → vR υ s (rT W s) ∨ vR υ s (0, 1, 0)) ∧ vR υ 0 (rT W 0)) ∧ ((v = 0 ∧ (∀ k, k < i → W 14 k = 1 → ¬ gI υ 22 (W 11 k) = 0 → ¬ gI υ 22 (W 12 k) = 0) ∧ zc υ ≤ zc τ) ∨ (v = 1 ∧ zc υ < zc τ))) ?_ ?_ 0 τ ⟨⟨he, hu, h00⟩, Or.inl ⟨rfl, fun k hk => absurd hk (Nat.not_lt_zero _), Nat.le_refl _⟩⟩
      · rintro n1 v υ ⟨hl, hm⟩
        rw [wX12_lays_65_s]
        refine dt (by rw [(hR.eq hl.1.x).bs]; exact nI_le (Nat.le_refl _) (by omega)) ?_
        rcases hm with ⟨rfl, hs, hz⟩ | ⟨rfl, hz⟩
        · exact kk (2 * zc υ) 0 υ ⟨hl, Or.inl ⟨rfl, hs, rfl⟩⟩ (by omega)
        · exact kk (2 * zc υ + 1) 1 υ ⟨hl, Or.inr ⟨rfl, rfl⟩⟩ (by omega)
      · rintro n1 i v υ hi ⟨hl, hm⟩ kk2
        rw [wX12_lays_65_s]
        have hR2 := hR.eq hl.1.x
        have hb := hv.b hi
        obtain ⟨r1, r2, r3, r4, r5, r6, r7⟩ := hR2.b hi
        have go : (W 14 i = 1 → ¬ gI υ 22 (W 11 i) = 0 → ¬ gI υ 22 (W 12 i) = 0) → wX12_lays_247 (wX12_lays_57 post n) (wX12_lays_65 (wX12_lays_57 post n) post n1) post v (nI i) υ := by
          rintro hs v1 rfl
          rw [nI_1]
          refine kk2 _ _ ⟨hl, ?_⟩
          rcases hm with ⟨e, hq, hz⟩ | hz
          · refine Or.inl ⟨e, fun k hk => ?_, hz⟩
            rcases Nat.lt_or_ge k i with g | g
            · exact hq k g
            · have : k = i := by omega
              subst this
              exact hs
          · exact Or.inr hz
        refine df (by rw [hR2.bs]; exact nI_ge hi (by omega)) ⟨vin (by omega) (by omega), ?_⟩
        rw [nI_clamp (by omega), r5, r2, r3, one_or hb.2.2.2.2.2.2.1]
        by_cases on : W 14 i = 1
        · refine df (by simp [on]) ⟨vin (by omega) (by omega), ?_⟩
          rw [nI_clamp (by omega)]
          by_cases w0 : gI υ 22 (W 11 i) = 0
          · exact dt w0 (go (fun _ n0 => absurd w0 n0))
          · refine df w0 ⟨vin (by omega) (by omega), ?_⟩
            rw [nI_clamp (by omega)]
            by_cases w1 : gI υ 22 (W 12 i) = 0
            · refine dt w1 (sR_sizeA hv hR2 hi ?_)
              have hd : vR υ (W 11 i) (rT W (W 11 i)) := by
                rcases hl.2.1 (W 11 i) (by omega) with g | g
                · exact g
                · exact absurd g.2.2 w0
              have d1 : gJ υ 20 (W 11 i) = lN (rA W (W 11 i)) := hd.1
              have d2 : gJ υ 21 (W 11 i) = lN (rB W (W 11 i)) := hd.2.1
              have d3 : gI υ 22 (W 11 i) = iI (T W (W 11 i)).2.2 := hd.2.2
              have ha : av W i < 2 ^ 31 := by unfold av; split <;> omega
              have hT := T_on hv hi on
              have bA : rA W (W 11 i) * av W i < 2 ^ 63 := by
                have q1 := Nat.mul_le_mul_right (av W i) (rA_l W (W 11 i))
                have q2 := T_b1 hv (W 12 i)
                rw [hT] at q2
                exact Nat.lt_of_le_of_lt q1 q2
              have bB : rB W (W 11 i) * W 16 i < 2 ^ 63 := by
                have q1 := Nat.mul_le_mul_right (W 16 i) (rB_l W (W 11 i))
                have q2 := T_b2 hv (W 12 i)
                rw [hT] at q2
                exact Nat.lt_of_le_of_lt q1 q2
              have pB : 0 < rB W (W 11 i) * W 16 i := Nat.mul_pos (rB_p hv _) (by omega)
              have pg := Nat.gcd_pos_of_pos_right (rA W (W 11 i) * av W i) pB
              have lg := Nat.gcd_le_right (rA W (W 11 i) * av W i) pB
              have hT1 := rT_on hv hi on
              have main : ∀ s2, nI (W 15 i) + s2 = nI (av W i) → wX12_lays_144 (wX12_lays_57 post n) (wX12_lays_65 (wX12_lays_57 post n) post n1) post (nI i) (gJ υ 20 (W 11 i)) (nI (W 15 i)) s2 υ := by
                rintro s2 es v4 rfl
                rw [es, d1, nI_l ha, lN_mul]
                refine ⟨vin (by omega) (by omega), by rw [nI_clamp (by omega), r2]; exact vin (by omega) (by omega), sR_sizeB hv hR2 hi ?_⟩
                rintro v9 rfl
                rw [nI_clamp (by omega), r2, nI_clamp (by omega), d2, nI_l (by omega), lN_mul]
                refine sR_common bA bB ⟨lN_n0 (by omega) pg, ?_⟩
                refine ⟨by rw [r3]; exact vin (by omega) (by omega), ?_⟩
                rw [r3, nI_clamp (by omega), lN_div bA (by omega), lN_div bB (by omega)]
                have ea : rA W (W 11 i) * av W i / Nat.gcd (rA W (W 11 i) * av W i) (rB W (W 11 i) * W 16 i) = rA W (W 12 i) := hT1.1.symm
                have eb : rB W (W 11 i) * W 16 i / Nat.gcd (rA W (W 11 i) * av W i) (rB W (W 11 i) * W 16 i) = rB W (W 12 i) := hT1.2.symm
                show ∀ σ15, σ15 = uJ υ 20 (W 12 i) (lN (rA W (W 11 i) * av W i / Nat.gcd (rA W (W 11 i) * av W i) (rB W (W 11 i) * W 16 i))) → _
                rw [ea]
                rintro σ15 rfl
                refine ⟨by rw [gI_uJ, r3]; exact vin (by omega) (by omega), ?_⟩
                rw [gI_uJ, r3, nI_clamp (by omega)]
                show ∀ σ19, σ19 = uJ _ 21 (W 12 i) (lN (rB W (W 11 i) * W 16 i / Nat.gcd (rA W (W 11 i) * av W i) (rB W (W 11 i) * W 16 i))) → _
                rw [eb]
                rintro σ19 rfl
                refine ⟨by rw [gI_uJ, gI_uJ, r2]; exact vin (by omega) (by omega), ?_⟩
                rw [gI_uJ, gI_uJ, gI_uJ, gI_uJ, gI_uJ, gI_uJ, gI_uJ, gI_uJ, r1, r2, r3, nI_clamp (by omega), d3]
                have fin : ∀ s3, s3 = iI (wy W i) → wX12_lays_243 (wX12_lays_57 post n) (wX12_lays_65 (wX12_lays_57 post n) post n1) post (nI i) (nI (W 12 i)) (iI (T W (W 11 i)).2.2) s3 (uJ (uJ υ 20 (W 12 i) (lN (rA W (W 12 i)))) 21 (W 12 i) (lN (rB W (W 12 i)))) := by
                  rintro s3 rfl
                  refine ⟨vin (by omega) (by omega), ?_⟩
                  rw [nI_clamp (by omega), iI_mul]
                  rintro σ3 rfl v1 rfl
                  rw [nI_1]
                  have eT : (T W (W 11 i)).2.2 * wy W i = (T W (W 12 i)).2.2 := by rw [hT]
                  rw [eT]
                  have nz : ¬ iI (T W (W 12 i)).2.2 = 0 := by
                    rw [iz, ← eT]
                    intro z
                    rcases Int.mul_eq_zero.mp z with y | y
                    · rw [d3] at w0
                      exact w0 ((iz _).mpr y)
                    · unfold wy at y
                      split at y <;> exact absurd y (by decide)
                  refine kk2 _ _ ⟨⟨((hl.1.uJ).uJ).uI, ?_, ?_⟩, Or.inr ⟨rfl, ?_⟩⟩
                  · intro s hs
                    by_cases e : s = W 12 i
                    · subst e
                      left
                      refine ⟨?_, ?_, ?_⟩
                      · rw [gJ_uI, gJ_o (by omega), gJ_s]; rfl
                      · rw [gJ_uI, gJ_s]; rfl
                      · rw [gI_s]; rfl
                    · have q : ∀ t, vR υ s t → vR (uI (uJ (uJ υ 20 (W 12 i) (lN (rA W (W 12 i)))) 21 (W 12 i) (lN (rB W (W 12 i)))) 22 (W 12 i) (iI (T W (W 12 i)).2.2)) s t := by
                        rintro t ⟨t1, t2, t3⟩
                        refine ⟨?_, ?_, ?_⟩
                        · rw [gJ_uI, gJ_o (by omega), gJ_o (by omega)]; exact t1
                        · rw [gJ_uI, gJ_o (by omega), gJ_o (by omega)]; exact t2
                        · rw [gI_o (by omega), gI_uJ, gI_uJ]; exact t3
                      rcases hl.2.1 s hs with g | g
                      · exact Or.inl (q _ g)
                      · exact Or.inr (q _ g)
                  · obtain ⟨t1, t2, t3⟩ := hl.2.2
                    refine ⟨?_, ?_, ?_⟩
                    · rw [gJ_uI, gJ_o (by omega), gJ_o (by omega)]; exact t1
                    · rw [gJ_uI, gJ_o (by omega), gJ_o (by omega)]; exact t2
                    · rw [gI_o (by omega), gI_uJ, gI_uJ]; exact t3
                  · have e : zc υ = zc (uI (uJ (uJ υ 20 (W 12 i) (lN (rA W (W 12 i)))) 21 (W 12 i) (lN (rB W (W 12 i)))) 22 (W 12 i) (iI (T W (W 12 i)).2.2)) + 1 := by
                      refine ct_dr (j := W 12 i) (by omega) (fun j hj => ?_) (by simp [w1]) ?_
                      · rw [gI_o (by omega), gI_uJ, gI_uJ]
                      · rw [gI_s]; simp [nz]
                    have : zc υ ≤ zc τ := by
                      rcases hm with ⟨-, -, q⟩ | ⟨-, q⟩
                      · exact q
                      · omega
                    omega
                have f1 : ((nI (W 10 i) = (1 : Int32)) ↔ W 10 i = 1) := nI_eq (b := 1) (by omega) (by omega)
                rw [f1]
                by_cases k1 : W 10 i = 1
                · exact dn k1 (fin _ (by unfold wy; rw [if_pos k1]; rfl))
                · exact dm k1 (fin _ (by unfold wy; rw [if_neg k1]; rfl))
              rw [r1]
              have e3 : (3 : Int32) = nI 3 := rfl
              have e2 : (2 : Int32) = nI 2 := rfl
              rw [e3, nI_eq (by omega) (by omega)]
              by_cases k3 : W 10 i = 3
              · refine dn k3 (main _ ?_)
                rw [e2, nI_add]
                unfold av
                rw [if_pos k3]
              · refine dm k3 (main _ ?_)
                rw [← nI_0, nI_add]
                unfold av
                rw [if_neg k3]
            · exact df w1 (go (fun _ _ => w1))
        · exact dt on (go (fun o => absurd o on))
  · intro s hs
    have := h0 s hs
    by_cases z : s = 0
    · left
      rw [if_pos z] at this
      rw [z, rT_0]
      rw [z] at this
      exact this
    · right
      rw [if_neg z] at this
      exact this
  · have := h0 0 (by omega)
    rw [if_pos rfl] at this
    rw [rT_0]
    exact this
theorem sR_lays22 {W : Vw} {ρ : St} (hv : Iv W) (hR : MR W ρ) {post : St → Prop} (h : ∀ τ, Eq22 ρ τ → SR W τ → post τ) : wX12_lays ρ post := by
  have hc := hv.c
  have e8 : (8 : Int32) = nI 8 := rfl
  refine lpc1 (wX12_lays_2 post) 8 (by omega) (fun i τ => Eq22 ρ τ ∧ ∀ s, s < i → vR τ s (if s = 0 then (W 0 1, 1, 1) else (0, 1, 0))) ?_ ?_ ρ ⟨Eq22.rf ρ, fun s hs => absurd hs (Nat.not_lt_zero _)⟩
  · rintro n τ ⟨he, hz⟩
    rw [wX12_lays_2_s, e8]
    refine dt (nI_le (Nat.le_refl _) (by omega)) ?_
    exact sR_lays57 hv (hR.eq he.x) hz (fun υ h1 h2 => h υ (he.tr h1) h2)
  · rintro n i τ hi ⟨he, hz⟩ kk
    rw [wX12_lays_2_s, e8]
    have hR1 := hR.eq he.x
    refine df (nI_ge hi (by omega)) ?_
    have fin : ∀ a b, a = lN (if i = 0 then W 0 1 else 0) → b = iI (if i = 0 then 1 else 0) → wX12_lays_48 (wX12_lays_2 post n) post (nI i) (nI i) b (uJ (uJ τ 20 i a) 21 i 1) := by
      rintro a b rfl rfl
      refine ⟨vin (by omega) (by omega), ?_⟩
      rw [nI_clamp (by omega)]
      rintro σ43 rfl v44 rfl
      rw [nI_1]
      refine kk _ ⟨((he.uJ).uJ).uI, fun s hs => ?_⟩
      by_cases es : s = i
      · subst es
        refine ⟨?_, ?_, ?_⟩
        · rw [gJ_uI, gJ_o (by omega), gJ_s]; split <;> rfl
        · rw [gJ_uI, gJ_s]; split <;> rfl
        · rw [gI_s]; split <;> rfl
      · obtain ⟨z1, z2, z3⟩ := hz s (by omega)
        refine ⟨?_, ?_, ?_⟩
        · rw [gJ_uI, gJ_o (by omega), gJ_o (by omega)]; exact z1
        · rw [gJ_uI, gJ_o (by omega), gJ_o (by omega)]; exact z2
        · rw [gI_o (by omega), gI_uJ, gI_uJ]; exact z3
    have go : ∀ a, a = lN (if i = 0 then W 0 1 else 0) → wX12_lays_26 (wX12_lays_2 post n) post (nI i) (nI i) a τ := by
      intro a ea
      refine ⟨vin (by omega) (by omega), ?_⟩
      rw [nI_clamp (by omega)]
      rintro σ46 rfl
      refine ⟨vin (by omega) (by omega), ?_⟩
      rintro σ48 rfl
      rw [← nI_0, nI_eq (by omega) (by omega)]
      by_cases z : i = 0
      · exact dn z (fin a _ ea (by rw [if_pos z]; rfl))
      · exact dm z (fin a _ ea (by rw [if_neg z]; rfl))
    rw [← nI_0, nI_eq (by omega) (by omega)]
    by_cases z : i = 0
    · exact dn z (go _ (by rw [hR1.et, if_pos z, nI_l (by omega)]))
    · exact dm z (go _ (by rw [if_neg z]; rfl))
theorem sR_lays {W : Vw} {ρ : St} (hv : Iv W) (hR : MR W ρ) {post : St → Prop} (h : ∀ τ, EqR ρ τ → SR W τ → post τ) : wX12_lays ρ post := sR_lays22 hv hR (fun τ e s => h τ e.x s)
