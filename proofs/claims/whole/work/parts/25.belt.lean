/-! PURE: a new belt -/
def bh (W : Vw) (n t s : Nat) : Bool := match n with
  | 0 => false
  | n + 1 => decide (s = t) || (match du W (W 0 4) s with
    | none => false
    | some k => bh W n t (W 11 k))
theorem bh_s (W : Vw) (n t s : Nat) : bh W (n + 1) t s = (decide (s = t) || (match du W (W 0 4) s with
    | none => false
    | some k => bh W n t (W 11 k))) := rfl
theorem bh_st {W : Vw} (hv : Iv W) (t : Nat) : ∀ n m s, rk W s < n → rk W s < m → bh W n t s = bh W m t s := by
  intro n
  induction n with
  | zero => intro m s h; exact absurd h (Nat.not_lt_zero _)
  | succ n ih =>
    intro m s h1 h2
    obtain ⟨m, rfl⟩ : ∃ q, m = q + 1 := ⟨m - 1, by omega⟩
    rw [bh_s, bh_s]
    cases hd : du W (W 0 4) s with
    | none => rfl
    | some k =>
      have hk := du_some hd
      have hr := rk_lt hv hk.1
      rw [hk.2] at hr
      simp only
      rw [ih m (W 11 k) (by omega) (by omega)]
/-- a shaft is driven from t, or is it, by all belts -/
def BH (W : Vw) (t s : Nat) : Bool := bh W 8 t s
theorem BH_none {W : Vw} {t s : Nat} (h : du W (W 0 4) s = none) : BH W t s = decide (s = t) := by
  show bh W (7 + 1) t s = _
  rw [bh_s, h]
  exact Bool.or_false _
theorem BH_some {W : Vw} (hv : Iv W) {t s k : Nat} (h : du W (W 0 4) s = some k) : BH W t s = (decide (s = t) || BH W t (W 11 k)) := by
  have hk := du_some h
  have hr := rk_lt hv hk.1
  have h7 := rk_7 hv (W 12 k)
  have e : bh W 7 t (W 11 k) = bh W 8 t (W 11 k) := bh_st hv t 7 8 _ (by omega) (by omega)
  show bh W (7 + 1) t s = (decide (s = t) || bh W 8 t (W 11 k))
  rw [bh_s, h, ← e]
theorem BH_self (W : Vw) (s : Nat) : BH W s s = true := by
  show bh W (7 + 1) s s = true
  rw [bh_s]
  simp
theorem du_is {W : Vw} (hv : Iv W) {k : Nat} (hk : k < W 0 4) : du W (W 0 4) (W 12 k) = some k := by
  cases h : du W (W 0 4) (W 12 k) with
  | none => exact absurd rfl (du_none h k hk)
  | some j =>
    have := du_some h
    rw [hv.dj this.1 hk this.2]
theorem sX_drives {W : Vw} {ids : List Nat} {σ : St} (hv : Iv W) (hM : MX W ids σ) (hD : DX W σ) {t s : Nat} (ht : t < W 0 0) (hs : s < W 0 0) {post : Int32 → St → Prop} (h : post (bI (BH W t s)) σ) : wX6_drives ids (nI t) (nI s) σ post := by
  have hc := hv.c
  have e8 : (8 : Int32) = nI 8 := rfl
  have h7 := rk_7 hv s
  have key := lpq1 (A1 := Int32 × Int32) (fun n p τ => wX6_drives_5 ids post (nI t) n p.1 p.2 τ) (fun m p τ => τ = σ ∧ ∃ a i, p = (nI a, nI i) ∧ a < W 0 0 ∧ BH W t a = BH W t s ∧ rk W a + i ≤ 7 ∧ m = rk W a) ?_ (rk W s) (nI s, nI 0) σ ⟨rfl, s, 0, rfl, hs, rfl, by omega, rfl⟩
  · rw [nI_0] at key
    exact key
  · rintro n m p τ ⟨rfl, a, i, rfl, ha, hb, hi, rfl⟩ kk
    show wX6_drives_5 ids post (nI t) (n + 1) (nI a) (nI i) τ
    rw [wX6_drives_5_s, e8]
    have fin : BH W t a = decide (a = t) → wX6_drives_48 ids post (nI t) (nI a) τ := by
      intro e
      unfold wX6_drives_48
      rw [nI_eq (by omega) (by omega)]
      rw [← hb, e] at h
      by_cases z : a = t
      · refine dn z ⟨isB_1, ?_⟩
        rw [decide_eq_true z] at h
        exact h
      · refine dm z ⟨isB_0, ?_⟩
        rw [decide_eq_false z] at h
        exact h
    refine df (nI_ge (by omega) (by omega)) ?_
    rw [nI_eq (by omega) (by omega)]
    by_cases z : a = t
    · exact dt z (fin (by rw [z, BH_self]; simp))
    · refine df z ⟨vin (by omega) (by omega), ?_⟩
      rw [nI_clamp (by omega), hD.2.2.2 a ha]
      cases hd : du W (W 0 4) a with
      | none => exact dt rfl (fin (BH_none hd))
      | some k =>
        have hk := du_some hd
        have hr := rk_lt hv hk.1
        rw [hk.2] at hr
        have hbk := hv.b hk.1
        refine df (ne_m1 (by omega)) ?_
        show vp_in (nI k) 7 ∧ _
        refine ⟨vin (by omega) (by omega), bO W k, ?_, hM.okB hv hk.1, ?_⟩
        · show gR τ 11 (nI k).toNatClampNeg = _
          rw [nI_clamp (by omega)]
          exact (hM.b hk.1).1
        · rw [(hM.b hk.1).2.2.2.1]
          rintro v rfl w rfl
          rw [nI_1]
          have e := BH_some hv (t := t) hd
          rw [decide_eq_false z, Bool.false_or] at e
          exact kk (rk W (W 11 k)) (nI (W 11 k), nI (i + 1)) τ ⟨rfl, W 11 k, i + 1, rfl, by omega, by rw [← e]; exact hb, by omega, rfl⟩ (by omega)
def oD (W : Vw) (o : Option Nat) : Int32 := match o with
  | none => -1
  | some k => nI (W 11 k)
theorem sR_isBehind {W : Vw} {ρ : St} (hv : Iv W) (hR : MR W ρ) {t s : Nat} (ht : t < W 0 0) (hs : s < W 0 0) {post : Int32 → St → Prop} (h : post (bI (BH W t s)) ρ) : wX12_isBehind (nI s) (nI t) ρ post := by
  have hc := hv.c
  refine lpq1 (A1 := Int32) (fun n a τ => wX12_isBehind_2 post (nI t) n a τ) (fun m a τ => τ = ρ ∧ ((a = -1 ∧ BH W t s = false ∧ m = 0) ∨ ∃ x, a = nI x ∧ x < W 0 0 ∧ BH W t x = BH W t s ∧ m = rk W x + 1)) ?_ (rk W s + 1) (nI s) ρ ⟨rfl, Or.inr ⟨s, rfl, hs, rfl, rfl⟩⟩
  rintro n m a τ ⟨rfl, hq⟩ kk
  show wX12_isBehind_2 post (nI t) (n + 1) a τ
  rw [wX12_isBehind_2_s]
  rcases hq with ⟨rfl, hb, rfl⟩ | ⟨x, rfl, hx, hb, rfl⟩
  · refine dt rfl (dm (fun z => ne_m1 (n := t) (by omega) z.symm) ⟨isB_0, ?_⟩)
    rw [hb] at h
    exact h
  · refine df (ne_m1 (by omega)) ?_
    unfold wX12_isBehind_64
    rw [nI_eq (by omega) (by omega)]
    by_cases z : x = t
    · refine dt z (dn z ⟨isB_1, ?_⟩)
      rw [← hb, z, BH_self] at h
      exact h
    · refine df z ?_
      refine lpc2 (wX12_isBehind_18 (wX12_isBehind_2 post (nI t) n) post (nI t) (nI x)) (W 0 4) (by omega) (fun i v υ => υ = τ ∧ v = oD W (du W i x)) ?_ ?_ (-1) τ ⟨rfl, rfl⟩
      · rintro n1 v υ ⟨rfl, rfl⟩
        rw [wX12_isBehind_18_s]
        refine dt (by rw [hR.bs]; exact nI_le (Nat.le_refl _) (by omega)) ?_
        cases hd : du W (W 0 4) x with
        | none =>
          have e := BH_none (t := t) hd
          rw [decide_eq_false z] at e
          exact kk 0 (-1) υ ⟨rfl, Or.inl ⟨rfl, by rw [← hb]; exact e, rfl⟩⟩ (by omega)
        | some k =>
          have hk := du_some hd
          have hr := rk_lt hv hk.1
          rw [hk.2] at hr
          have hbk := hv.b hk.1
          have e := BH_some hv (t := t) hd
          rw [decide_eq_false z, Bool.false_or] at e
          exact kk (rk W (W 11 k) + 1) (nI (W 11 k)) υ ⟨rfl, Or.inr ⟨W 11 k, rfl, by omega, by rw [← e]; exact hb, rfl⟩⟩ (by omega)
      · rintro n1 i v υ hi ⟨rfl, rfl⟩ kk2
        rw [wX12_isBehind_18_s]
        obtain ⟨r1, r2, r3, r4, r5, r6, r7⟩ := hR.b hi
        have hbi := hv.b hi
        refine df (by rw [hR.bs]; exact nI_ge hi (by omega)) ⟨vin (by omega) (by omega), ?_⟩
        rw [nI_clamp (by omega), r2, r3, nI_eq (by omega) (by omega)]
        by_cases y : W 12 i = x
        · refine dn y ?_
          rintro v3 rfl
          rw [nI_1]
          refine kk2 _ _ ⟨rfl, ?_⟩
          rw [du_s, if_pos y]
          rfl
        · refine dm y ?_
          rintro v3 rfl
          rw [nI_1]
          refine kk2 _ _ ⟨rfl, ?_⟩
          rw [du_s, if_neg y]
def wbl (W : Vw) (kd d e A B g : Nat) (o : Nat → Nat) : Vw := fun x y => if x = 17 then o y else if x = 0 ∧ y = 4 then W 0 4 + 1 else if y = W 0 4 ∧ ((10 ≤ x ∧ x ≤ 16) ∨ x = 18 ∨ x = 19) then (if x = 10 then kd else if x = 11 then d else if x = 12 then e else if x = 13 then g else if x = 14 then 1 else if x = 15 then W 20 A else if x = 16 then W 20 B else if x = 18 then A else B) else W x y
theorem wbl_o {W : Vw} {kd d e A B g : Nat} {o : Nat → Nat} {x y : Nat} (h0 : ¬ x = 17) (h1 : ¬ (x = 0 ∧ y = 4)) (h2 : ¬ (y = W 0 4 ∧ ((10 ≤ x ∧ x ≤ 16) ∨ x = 18 ∨ x = 19))) : wbl W kd d e A B g o x y = W x y := by
  unfold wbl
  rw [if_neg h0, if_neg h1, if_neg h2]
theorem wbl_n {W : Vw} {kd d e A B g : Nat} {o : Nat → Nat} {x : Nat} (h : (10 ≤ x ∧ x ≤ 16) ∨ x = 18 ∨ x = 19) : wbl W kd d e A B g o x (W 0 4) = (if x = 10 then kd else if x = 11 then d else if x = 12 then e else if x = 13 then g else if x = 14 then 1 else if x = 15 then W 20 A else if x = 16 then W 20 B else if x = 18 then A else B) := by
  unfold wbl
  rw [if_neg (by omega), if_neg (by omega), if_pos ⟨rfl, h⟩]
/-- the class's store with the belt, its order not yet -/
def blX (σ : St) (K p : Nat) (kd d e A B g a b : Int32) (en : Nat) : St := uI (uI (uR (uI (uI (uI (uI (uI (uI (uI (uI (uI (nC σ p) p 8 1) p 0 kd) p 1 d) p 2 e) p 3 g) p 4 A) p 6 a) p 5 B) p 7 b) 11 K (some p)) 5 en (nI K)) 1 3 (nI K + 1)
theorem blX_o {σ : St} {K p en : Nat} {kd d e A B g a b : Int32} {c j : Nat} (hp : ¬ p = 5 ∧ ¬ p = 1) (h0 : ¬ c = p) (h1 : ¬ (c = 5 ∧ j = en)) (h2 : ¬ (c = 1 ∧ j = 3)) : gI (blX σ K p kd d e A B g a b en) c j = gI σ c j := by
  unfold blX
  rw [gI_o (by omega), gI_o (by omega), gI_uR, gI_o (by omega), gI_o (by omega), gI_o (by omega), gI_o (by omega), gI_o (by omega), gI_o (by omega), gI_o (by omega), gI_o (by omega), gI_o (by omega), gI_nC, if_neg h0]
theorem blX_n {σ : St} {K p en : Nat} {kd d e A B g a b : Int32} (hp : ¬ p = 5 ∧ ¬ p = 1) (j : Nat) : gI (blX σ K p kd d e A B g a b en) p j = if j = 0 then kd else if j = 1 then d else if j = 2 then e else if j = 3 then g else if j = 4 then A else if j = 5 then B else if j = 6 then a else if j = 7 then b else if j = 8 then 1 else 0 := by
  unfold blX
  rw [gI_o (by omega), gI_o (by omega), gI_uR]
  by_cases j7 : j = 7
  · subst j7; rw [gI_s]; rfl
  rw [gI_o (by omega)]
  by_cases j5 : j = 5
  · subst j5; rw [gI_s]; rfl
  rw [gI_o (by omega)]
  by_cases j6 : j = 6
  · subst j6; rw [gI_s]; rfl
  rw [gI_o (by omega)]
  by_cases j4 : j = 4
  · subst j4; rw [gI_s]; rfl
  rw [gI_o (by omega)]
  by_cases j3 : j = 3
  · subst j3; rw [gI_s]; rfl
  rw [gI_o (by omega)]
  by_cases j2 : j = 2
  · subst j2; rw [gI_s]; rfl
  rw [gI_o (by omega)]
  by_cases j1 : j = 1
  · subst j1; rw [gI_s]; rfl
  rw [gI_o (by omega)]
  by_cases j0 : j = 0
  · subst j0; rw [gI_s]; rfl
  rw [gI_o (by omega)]
  by_cases j8 : j = 8
  · subst j8; rw [gI_s]; rfl
  rw [gI_o (by omega), gI_nC, if_pos rfl]
  simp [*]
theorem blX_r {σ : St} {K p en : Nat} {kd d e A B g a b : Int32} (c j : Nat) : gR (blX σ K p kd d e A B g a b en) c j = if c = 11 ∧ j = K then some p else if c = p then none else gR σ c j := by
  unfold blX
  rw [gR_uI, gR_uI, gR_uR, gR_uI, gR_uI, gR_uI, gR_uI, gR_uI, gR_uI, gR_uI, gR_uI, gR_uI, gR_nC]
def blR (ρ : St) (K : Nat) (kd d e A B g : Int32) : St := uI (uI (uI (uI (uI (uI (uI (uI ρ 13 K kd) 14 K d) 15 K e) 16 K A) 17 K B) 18 K g) 19 K 1) 0 28 (nI K + 1)
theorem blR_o {ρ : St} {K : Nat} {kd d e A B g : Int32} {c j : Nat} (h0 : ¬ (j = K ∧ 13 ≤ c ∧ c ≤ 19)) (h1 : ¬ (c = 0 ∧ j = 28)) : gI (blR ρ K kd d e A B g) c j = gI ρ c j := by
  unfold blR
  rw [gI_o (by omega), gI_o (by omega), gI_o (by omega), gI_o (by omega), gI_o (by omega), gI_o (by omega), gI_o (by omega), gI_o (by omega)]
theorem blR_n {ρ : St} {K : Nat} {kd d e A B g : Int32} {c : Nat} (hc : 13 ≤ c ∧ c ≤ 19) : gI (blR ρ K kd d e A B g) c K = if c = 13 then kd else if c = 14 then d else if c = 15 then e else if c = 16 then A else if c = 17 then B else if c = 18 then g else 1 := by
  unfold blR
  rw [gI_o (by omega)]
  have : c = 13 ∨ c = 14 ∨ c = 15 ∨ c = 16 ∨ c = 17 ∨ c = 18 ∨ c = 19 := by omega
  rcases this with rfl | rfl | rfl | rfl | rfl | rfl | rfl
  · rw [gI_o (by omega), gI_o (by omega), gI_o (by omega), gI_o (by omega), gI_o (by omega), gI_o (by omega), gI_s]; rfl
  · rw [gI_o (by omega), gI_o (by omega), gI_o (by omega), gI_o (by omega), gI_o (by omega), gI_s]; rfl
  · rw [gI_o (by omega), gI_o (by omega), gI_o (by omega), gI_o (by omega), gI_s]; rfl
  · rw [gI_o (by omega), gI_o (by omega), gI_o (by omega), gI_s]; rfl
  · rw [gI_o (by omega), gI_o (by omega), gI_s]; rfl
  · rw [gI_o (by omega), gI_s]; rfl
  · rw [gI_s]; rfl
theorem belt_up {W : Vw} {ids : List Nat} {σ ρ τ : St} (h : RW W ids σ ρ) (hn : W 0 4 < 7) {kd d e A B g : Nat} {o : Nat → Nat} (hkd : kd ≤ 5) (hd : d < W 0 0) (he : e < W 0 0) (he1 : 1 ≤ e) (hA : A < W 0 5) (hB : B < W 0 5) (hAB : A ≠ B) (hg1 : 1 ≤ g) (hg : g ≤ 999) (hdu : du W (W 0 4) e = none)
    (t1 : ∀ c k, ¬ c = 12 → gI τ c k = gI (blX σ (W 0 4) (72 + 8 * W 0 4 + kd) (nI kd) (nI d) (nI e) (nI A) (nI B) (nI g) (nI (W 20 A)) (nI (W 20 B)) e) c k) (t2 : ∀ c k, gR τ c k = gR (blX σ (W 0 4) (72 + 8 * W 0 4 + kd) (nI kd) (nI d) (nI e) (nI A) (nI B) (nI g) (nI (W 20 A)) (nI (W 20 B)) e) c k)
    (o1 : ∀ i, i < W 0 4 + 1 → gI τ 12 i = nI (o i) ∧ o i < W 0 4 + 1) (o2 : ∀ k, k < W 0 4 + 1 → ∃ i, i < W 0 4 + 1 ∧ o i = k) (o3 : ∀ i j, i < W 0 4 + 1 → j < W 0 4 + 1 → wbl W kd d e A B g o 12 j = wbl W kd d e A B g o 11 (o i) → ∃ i', i' < i ∧ o i' = j) :
    RW (wbl W kd d e A B g o) (ids ++ [72 + 8 * W 0 4 + kd]) τ (blR ρ (W 0 4) (nI kd) (nI d) (nI e) (nI A) (nI B) (nI g)) := by
  have hv := h.iv
  have hc := hv.c
  obtain ⟨i1, i2, i3, i4, i5, i6, i7, i8⟩ := hv
  have hv := h.iv
  have hM := h.mx
  have hR := h.mr
  have hdc := h.dv.1
  have zA := h.dv.2.2.1 A hA
  have zB := h.dv.2.2.1 B hB
  have w04 : wbl W kd d e A B g o 0 4 = W 0 4 + 1 := rfl
  have w17 : ∀ y, wbl W kd d e A B g o 17 y = o y := fun y => if_pos rfl
  have w0 : ∀ y, ¬ y = 4 → wbl W kd d e A B g o 0 y = W 0 y := fun y hy => wbl_o (by omega) (by omega) (by omega)
  have wf : ∀ x, ¬ x = 0 → ¬ x = 17 → ¬ ((10 ≤ x ∧ x ≤ 16) ∨ x = 18 ∨ x = 19) → ∀ y, wbl W kd d e A B g o x y = W x y := fun x h1 h2 h3 y => wbl_o (by omega) (by omega) (by omega)
  have wk : ∀ x k, ¬ x = 0 → ¬ x = 17 → k < W 0 4 → wbl W kd d e A B g o x k = W x k := fun x k h1 h2 h3 => wbl_o (by omega) (by omega) (by omega)
  have nX : ∀ c j, ¬ c = 12 → ¬ c = 72 + 8 * W 0 4 + kd → ¬ (c = 5 ∧ j = e) → ¬ (c = 1 ∧ j = 3) → gI τ c j = gI σ c j := fun c j h1 h2 h3 h4 => by rw [t1 c j h1, blX_o (by omega) h2 h3 h4]
  have n13 : gI τ 1 3 = nI (W 0 4 + 1) := by
    rw [t1 _ _ (by omega)]
    unfold blX
    rw [gI_s, nI_1]
  have nB : ∀ j, gI τ (72 + 8 * W 0 4 + kd) j = if j = 0 then nI kd else if j = 1 then nI d else if j = 2 then nI e else if j = 3 then nI g else if j = 4 then nI A else if j = 5 then nI B else if j = 6 then nI (W 20 A) else if j = 7 then nI (W 20 B) else if j = 8 then 1 else 0 := fun j => by rw [t1 _ _ (by omega), blX_n (by omega)]
  have rX : ∀ c j, gR τ c j = if c = 11 ∧ j = W 0 4 then some (72 + 8 * W 0 4 + kd) else if c = 72 + 8 * W 0 4 + kd then none else gR σ c j := fun c j => by rw [t2, blX_r]
  have nR : ∀ c j, ¬ (j = W 0 4 ∧ 13 ≤ c ∧ c ≤ 19) → ¬ (c = 0 ∧ j = 28) → gI (blR ρ (W 0 4) (nI kd) (nI d) (nI e) (nI A) (nI B) (nI g)) c j = gI ρ c j := fun c j h0 h1 => blR_o h0 h1
  have n28 : gI (blR ρ (W 0 4) (nI kd) (nI d) (nI e) (nI A) (nI B) (nI g)) 0 28 = nI (W 0 4 + 1) := by
    unfold blR; rw [gI_s, nI_1]
  have ebn : bO (wbl W kd d e A B g o) (W 0 4) = 72 + 8 * W 0 4 + kd := by
    unfold bO
    rw [wbl_n (by omega)]
    rfl
  have ebk : ∀ k, k < W 0 4 → bO (wbl W kd d e A B g o) k = bO W k := fun k hk => bO_cg (wk 10 k (by omega) (by omega) hk)
  have br : ∀ k, k < W 0 4 → 72 ≤ bO W k ∧ bO W k < 72 + 8 * W 0 4 := by
    intro k hk
    have := (hv.b hk).1
    unfold bO
    omega
  have edu : ∀ s, ¬ s = e → du (wbl W kd d e A B g o) (W 0 4 + 1) s = du W (W 0 4) s := by
    intro s hs
    rw [du_s, wbl_n (by omega)]
    rw [if_neg (by simp; omega)]
    have : ∀ n, n ≤ W 0 4 → du (wbl W kd d e A B g o) n s = du W n s := by
      intro n
      induction n with
      | zero => intro _; rfl
      | succ n ih =>
        intro hn
        rw [du_s, du_s, ih (by omega), wk 12 n (by omega) (by omega) (by omega)]
    exact this _ (Nat.le_refl _)
  have ede : du (wbl W kd d e A B g o) (W 0 4 + 1) e = some (W 0 4) := by
    rw [du_s, wbl_n (by omega)]
    exact if_pos rfl
  refine h.up2 ⟨?_, ?_, ?_, ?_, ?_, ?_, ?_, ?_⟩ ⟨?_, ?_, ?_, ?_, ?_, ?_, ?_, ?_⟩ ⟨⟨?_, ?_, ?_⟩, ⟨?_, ?_, ?_, ?_, ?_⟩, ⟨?_, ?_, ?_, ?_⟩, ⟨?_, ?_, ?_⟩, h.ts.fr ?_ ?_⟩ ⟨⟨?_, ?_, ?_, ?_⟩, ⟨?_, ?_, ?_, ?_, ?_⟩, h.ir.fr2 ?_ ?_, h.tq.fr ?_ ?_⟩ (w0 _ (by omega)) ?_ ?_
  -- Iv
  · rw [w0 0 (by omega), w0 1 (by omega), w0 2 (by omega), w0 3 (by omega), w04]
    exact ⟨i1.1, i1.2.1, i1.2.2.1, i1.2.2.2.1, i1.2.2.2.2.1, hn⟩
  · intro s hs
    rw [w0 0 (by omega)] at hs
    rw [wf 1 (by omega) (by omega) (by omega), wf 2 (by omega) (by omega) (by omega)]
    exact i2 s hs
  · intro m hm
    rw [w0 3 (by omega)] at hm
    rw [w0 0 (by omega), wf 3 (by omega) (by omega) (by omega), wf 4 (by omega) (by omega) (by omega), wf 5 (by omega) (by omega) (by omega), wf 6 (by omega) (by omega) (by omega), wf 7 (by omega) (by omega) (by omega), wf 8 (by omega) (by omega) (by omega)]
    exact i3 m hm
  · intro k hk
    rw [w04] at hk
    rw [w0 0 (by omega)]
    by_cases ek : k = W 0 4
    · subst ek
      rw [wbl_n (by omega), wbl_n (by omega), wbl_n (by omega), wbl_n (by omega), wbl_n (by omega), wbl_n (by omega), wbl_n (by omega)]
      exact ⟨hkd, hd, he, he1, hg1, hg, Nat.le_refl 1, zA.1, zA.2, zB.1, zB.2⟩
    · rw [wk 10 k (by omega) (by omega) (by omega), wk 11 k (by omega) (by omega) (by omega), wk 12 k (by omega) (by omega) (by omega), wk 13 k (by omega) (by omega) (by omega), wk 14 k (by omega) (by omega) (by omega), wk 15 k (by omega) (by omega) (by omega), wk 16 k (by omega) (by omega) (by omega)]
      exact i4 k (by omega)
  · intro j k hj hk
    rw [w04] at hj hk
    have nd := du_none hdu
    have en : wbl W kd d e A B g o 12 (W 0 4) = e := by rw [wbl_n (by omega)]; rfl
    by_cases ej : j = W 0 4
    · by_cases ek : k = W 0 4
      · intro _; omega
      · rw [ej, en, wk 12 k (by omega) (by omega) (by omega)]
        intro z
        exact absurd z.symm (nd k (by omega))
    · by_cases ek : k = W 0 4
      · rw [ek, en, wk 12 j (by omega) (by omega) (by omega)]
        intro z
        exact absurd z (nd j (by omega))
      · rw [wk 12 j (by omega) (by omega) (by omega), wk 12 k (by omega) (by omega) (by omega)]
        exact i5 j k (by omega) (by omega)
  · intro i hi
    rw [w04] at hi
    rw [w04, w17]
    exact (o1 i hi).2
  · intro k hk
    rw [w04] at hk
    obtain ⟨i, hi, ei⟩ := o2 k hk
    exact ⟨i, by rw [w04]; exact hi, by rw [w17]; exact ei⟩
  · intro i j hi hj ej
    rw [w04] at hi hj
    rw [w17] at ej
    obtain ⟨i', hi', e'⟩ := o3 i j hi hj ej
    exact ⟨i', hi', by rw [w17]; exact e'⟩
  -- Dv
  · rw [w0 5 (by omega), w0 6 (by omega), w0 7 (by omega), w04, w0 8 (by omega), w0 3 (by omega), w0 12 (by omega), w0 13 (by omega), w0 14 (by omega)]
    exact ⟨hdc.1, hdc.2.1, by omega, hdc.2.2.2⟩
  · rw [w0 6 (by omega), w0 9 (by omega), w0 10 (by omega), w0 11 (by omega), w0 12 (by omega)]
    exact h.dv.2.1
  · intro x hx
    rw [w0 5 (by omega)] at hx
    rw [wf 20 (by omega) (by omega) (by omega)]
    exact h.dv.2.2.1 x hx
  · intro k hk
    rw [w04] at hk
    rw [w0 5 (by omega), wf 20 (by omega) (by omega) (by omega), wf 20 (by omega) (by omega) (by omega)]
    by_cases ek : k = W 0 4
    · subst ek
      rw [wbl_n (by omega), wbl_n (by omega), wbl_n (by omega), wbl_n (by omega)]
      exact ⟨hA, hB, hAB, rfl, rfl⟩
    · rw [wk 18 k (by omega) (by omega) (by omega), wk 19 k (by omega) (by omega) (by omega), wk 15 k (by omega) (by omega) (by omega), wk 16 k (by omega) (by omega) (by omega)]
      exact h.dv.2.2.2.1 k (by omega)
  · intro m hm
    rw [w0 3 (by omega)] at hm
    rw [wf 4 (by omega) (by omega) (by omega)]
    exact h.dv.2.2.2.2.1 m hm
  · intro k hk
    rw [w0 7 (by omega)] at hk
    rw [w0 5 (by omega), wf 21 (by omega) (by omega) (by omega), wf 22 (by omega) (by omega) (by omega), wf 23 (by omega) (by omega) (by omega)]
    exact h.dv.2.2.2.2.2.1 k hk
  · intro m hm
    rw [w0 8 (by omega)] at hm
    rw [wf 24 (by omega) (by omega) (by omega), wf 25 (by omega) (by omega) (by omega)]
    exact h.dv.2.2.2.2.2.2.1 m hm
  · intro i hi
    rw [w0 14 (by omega)] at hi
    rw [wf 26 (by omega) (by omega) (by omega)]
    exact h.dv.2.2.2.2.2.2.2 i hi
  -- Fr
  · intro c hc'
    exact List.mem_append.mpr (Or.inl (h.fr.1 c hc'))
  · intro c hc'
    rw [w0 3 (by omega), w04]
    rcases List.mem_append.mp hc' with g1 | g1
    · rcases h.fr.2.1 c g1 with g2 | ⟨m, g2, g3⟩ | ⟨k, g2, g3⟩
      · exact Or.inl g2
      · exact Or.inr (Or.inl ⟨m, g2, g3⟩)
      · exact Or.inr (Or.inr ⟨k, by omega, by rw [g3, ebk k g2]⟩)
    · exact Or.inr (Or.inr ⟨W 0 4, by omega, by rw [ebn]; exact List.mem_singleton.mp g1⟩)
  · intro c hc' k x ex
    rw [rX] at ex
    split at ex
    · obtain rfl := Option.some.inj ex
      exact List.mem_append.mpr (Or.inr (List.mem_singleton.mpr rfl))
    · split at ex
      · exact absurd ex (by simp)
      · rename_i g2
        rcases List.mem_append.mp hc' with g1 | g1
        · exact List.mem_append.mpr (Or.inl (h.fr.2.2 c g1 k x ex))
        · exact absurd (List.mem_singleton.mp g1) g2
  -- MX
  · rw [w0 0 (by omega), w0 1 (by omega), w0 2 (by omega), w0 3 (by omega), w04, n13, nX _ _ (by omega) (by omega) (by omega) (by omega), nX _ _ (by omega) (by omega) (by omega) (by omega), nX _ _ (by omega) (by omega) (by omega) (by omega), nX _ _ (by omega) (by omega) (by omega) (by omega)]
    exact ⟨hM.1.1, hM.1.2.1, rfl, hM.1.2.2.2⟩
  · intro s hs
    rw [w0 0 (by omega)] at hs
    rw [wf 1 (by omega) (by omega) (by omega), wf 2 (by omega) (by omega) (by omega), nX _ _ (by omega) (by omega) (by omega) (by omega), nX _ _ (by omega) (by omega) (by omega) (by omega)]
    exact hM.s hs
  · intro m hm
    rw [w0 3 (by omega)] at hm
    obtain ⟨h1, h2, h3⟩ := hM.m hm
    rw [wf 3 (by omega) (by omega) (by omega), wf 4 (by omega) (by omega) (by omega), wf 5 (by omega) (by omega) (by omega), wf 6 (by omega) (by omega) (by omega), wf 7 (by omega) (by omega) (by omega), wf 8 (by omega) (by omega) (by omega), nX _ _ (by omega) (by omega) (by omega) (by omega), nX _ _ (by omega) (by omega) (by omega) (by omega), nX _ _ (by omega) (by omega) (by omega) (by omega), nX _ _ (by omega) (by omega) (by omega) (by omega), nX _ _ (by omega) (by omega) (by omega) (by omega), nX _ _ (by omega) (by omega) (by omega) (by omega), rX, if_neg (by omega), if_neg (by omega)]
    exact ⟨h1, List.mem_append.mpr (Or.inl h2), h3⟩
  · intro k hk
    rw [w04] at hk
    by_cases ek : k = W 0 4
    · subst ek
      rw [ebn, wbl_n (by omega), wbl_n (by omega), wbl_n (by omega), wbl_n (by omega), wbl_n (by omega), wbl_n (by omega), wbl_n (by omega), nB, nB, nB, nB, nB, nB, nB, rX, if_pos ⟨rfl, rfl⟩]
      exact ⟨rfl, List.mem_append.mpr (Or.inr (List.mem_singleton.mpr rfl)), rfl, rfl, rfl, rfl, rfl, rfl, rfl⟩
    · have bk := br k (by omega)
      obtain ⟨h1, h2, h3⟩ := hM.b (k := k) (by omega)
      rw [ebk k (by omega), wk 10 k (by omega) (by omega) (by omega), wk 11 k (by omega) (by omega) (by omega), wk 12 k (by omega) (by omega) (by omega), wk 13 k (by omega) (by omega) (by omega), wk 14 k (by omega) (by omega) (by omega), wk 15 k (by omega) (by omega) (by omega), wk 16 k (by omega) (by omega) (by omega), nX _ _ (by omega) (by omega) (by omega) (by omega), nX _ _ (by omega) (by omega) (by omega) (by omega), nX _ _ (by omega) (by omega) (by omega) (by omega), nX _ _ (by omega) (by omega) (by omega) (by omega), nX _ _ (by omega) (by omega) (by omega) (by omega), nX _ _ (by omega) (by omega) (by omega) (by omega), nX _ _ (by omega) (by omega) (by omega) (by omega), rX, if_neg (by omega), if_neg (by omega)]
      exact ⟨h1, List.mem_append.mpr (Or.inl h2), h3⟩
  · intro i hi
    rw [w04] at hi
    rw [w17]
    exact (o1 i hi).1
  -- DX
  · rw [nX _ _ (by omega) (by omega) (by omega) (by omega), w0 5 (by omega)]; exact h.dx.1
  · intro x hx
    rw [w0 5 (by omega)] at hx
    rw [nX _ _ (by omega) (by omega) (by omega) (by omega), wf 20 (by omega) (by omega) (by omega)]
    exact h.dx.2.1 x hx
  · intro k hk
    rw [w04] at hk
    by_cases ek : k = W 0 4
    · subst ek
      rw [ebn, wbl_n (by omega), wbl_n (by omega), nB, nB]
      exact ⟨rfl, rfl⟩
    · have bk := br k (by omega)
      rw [ebk k (by omega), wk 18 k (by omega) (by omega) (by omega), wk 19 k (by omega) (by omega) (by omega), nX _ _ (by omega) (by omega) (by omega) (by omega), nX _ _ (by omega) (by omega) (by omega) (by omega)]
      exact h.dx.2.2.1 k (by omega)
  · intro s hs
    rw [w0 0 (by omega)] at hs
    rw [w04]
    by_cases es : s = e
    · rw [es, ede, t1 _ _ (by omega)]
      unfold blX
      rw [gI_o (by omega), gI_s]
      rfl
    · rw [edu s es, nX _ _ (by omega) (by omega) (by omega) (by omega)]
      exact h.dx.2.2.2 s hs
  -- IX
  · rw [nX _ _ (by omega) (by omega) (by omega) (by omega), nX _ _ (by omega) (by omega) (by omega) (by omega), nX _ _ (by omega) (by omega) (by omega) (by omega), nX _ _ (by omega) (by omega) (by omega) (by omega), w0 6 (by omega), w0 9 (by omega), w0 10 (by omega), w0 11 (by omega)]
    exact h.ix.1
  · intro m hm
    rw [w0 3 (by omega)] at hm
    rw [w0 8 (by omega), nX _ _ (by omega) (by omega) (by omega) (by omega), nX _ _ (by omega) (by omega) (by omega) (by omega), nX _ _ (by omega) (by omega) (by omega) (by omega), wf 24 (by omega) (by omega) (by omega), wf 25 (by omega) (by omega) (by omega)]
    exact h.ix.2.1 m hm
  · intro k hk
    rw [w04] at hk
    rw [w0 7 (by omega)]
    by_cases ek : k = W 0 4
    · subst ek
      rw [ebn, nB, nB, nB, nB, if_neg (by omega : ¬ W 0 4 < W 0 7)]
      exact ⟨rfl, fun z => absurd z (by omega)⟩
    · have bk := br k (by omega)
      rw [ebk k (by omega), nX _ _ (by omega) (by omega) (by omega) (by omega), nX _ _ (by omega) (by omega) (by omega) (by omega), nX _ _ (by omega) (by omega) (by omega) (by omega), nX _ _ (by omega) (by omega) (by omega) (by omega), wf 21 (by omega) (by omega) (by omega), wf 22 (by omega) (by omega) (by omega), wf 23 (by omega) (by omega) (by omega)]
      exact h.ix.2.2 k (by omega)
  -- TS
  · intro a b hc'; unfold cT at hc'; exact wbl_o (by omega) (by omega) (by omega)
  · intro c k hk; unfold kT at hk; exact nX _ _ (by omega) (by omega) (by omega) (by omega)
  -- MR
  · rw [w0 0 (by omega), w0 1 (by omega), w0 2 (by omega), w0 3 (by omega), w04, n28, nR _ _ (by omega) (by omega), nR _ _ (by omega) (by omega), nR _ _ (by omega) (by omega), nR _ _ (by omega) (by omega)]
    exact ⟨hR.1.1, hR.1.2.1, rfl, hR.1.2.2.2⟩
  · intro s hs
    rw [w0 0 (by omega)] at hs
    rw [wf 1 (by omega) (by omega) (by omega), wf 2 (by omega) (by omega) (by omega), nR _ _ (by omega) (by omega), nR _ _ (by omega) (by omega)]
    exact hR.s hs
  · intro m hm
    rw [w0 3 (by omega)] at hm
    rw [wf 3 (by omega) (by omega) (by omega), wf 4 (by omega) (by omega) (by omega), wf 5 (by omega) (by omega) (by omega), wf 6 (by omega) (by omega) (by omega), wf 7 (by omega) (by omega) (by omega), wf 8 (by omega) (by omega) (by omega), nR 6 m (by omega) (by omega), nR 8 m (by omega) (by omega), nR 9 m (by omega) (by omega), nR 0 34 (by omega) (by omega), nR 0 35 (by omega) (by omega), nR 7 m (by omega) (by omega), nR 10 m (by omega) (by omega), nR 11 m (by omega) (by omega)]
    exact hR.m hm
  · intro k hk
    rw [w04] at hk
    have n12 : ∀ x, gI (blR ρ (W 0 4) (nI kd) (nI d) (nI e) (nI A) (nI B) (nI g)) 12 x = gI ρ 12 x := fun x => nR _ _ (by omega) (by omega)
    rw [nR 0 29 (by omega) (by omega), nR 0 30 (by omega) (by omega)]
    simp only [n12]
    by_cases ek : k = W 0 4
    · subst ek
      rw [wbl_n (by omega), wbl_n (by omega), wbl_n (by omega), wbl_n (by omega), wbl_n (by omega), wbl_n (by omega), wbl_n (by omega), blR_n (by omega), blR_n (by omega), blR_n (by omega), blR_n (by omega), blR_n (by omega), blR_n (by omega), blR_n (by omega), h.dr.2.2.2.1]
      exact ⟨rfl, rfl, rfl, rfl, rfl, ⟨A, by omega, rfl, h.dr.2.1 A hA⟩, fun _ => ⟨B, by omega, rfl, h.dr.2.1 B hB⟩, fun z => absurd z (ne_m1 (by omega))⟩
    · rw [wk 10 k (by omega) (by omega) (by omega), wk 11 k (by omega) (by omega) (by omega), wk 12 k (by omega) (by omega) (by omega), wk 13 k (by omega) (by omega) (by omega), wk 14 k (by omega) (by omega) (by omega), wk 15 k (by omega) (by omega) (by omega), wk 16 k (by omega) (by omega) (by omega), nR 13 k (by omega) (by omega), nR 14 k (by omega) (by omega), nR 15 k (by omega) (by omega), nR 18 k (by omega) (by omega), nR 19 k (by omega) (by omega), nR 16 k (by omega) (by omega), nR 17 k (by omega) (by omega)]
      exact hR.b (by omega)
  -- DR
  · rw [nR _ _ (by omega) (by omega), w0 5 (by omega)]; exact h.dr.1
  · intro x hx
    rw [w0 5 (by omega)] at hx
    rw [nR _ _ (by omega) (by omega), wf 20 (by omega) (by omega) (by omega)]
    exact h.dr.2.1 x hx
  · intro k hk
    rw [w04] at hk
    by_cases ek : k = W 0 4
    · subst ek
      rw [wbl_n (by omega), wbl_n (by omega), blR_n (by omega), blR_n (by omega)]
      exact ⟨rfl, rfl⟩
    · rw [wk 18 k (by omega) (by omega) (by omega), wk 19 k (by omega) (by omega) (by omega), nR _ _ (by omega) (by omega), nR _ _ (by omega) (by omega)]
      exact h.dr.2.2.1 k (by omega)
  · rw [nR _ _ (by omega) (by omega)]; exact h.dr.2.2.2.1
  · rw [nR _ _ (by omega) (by omega)]; exact h.dr.2.2.2.2
  -- IR, TQ
  · intro a b hc'; exact wbl_o (by omega) (by omega) (by omega)
  · intro c k hk; unfold qI at hk; exact nR _ _ (by omega) (by omega)
  · intro a b hc'; unfold cT at hc'; exact wbl_o (by omega) (by omega) (by omega)
  · intro c k hk; unfold qT at hk; exact nR _ _ (by omega) (by omega)
  · intro c k h1 h2; exact nX _ _ (by omega) (by omega) (by omega) (by omega)
  · intro c k hk; exact nR _ _ (by omega) (by omega)
