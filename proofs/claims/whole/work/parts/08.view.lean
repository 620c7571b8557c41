/-! PURE: what the class's store and the reference's show -/
theorem vin {i n : Nat} (h : i < n) (hn : n < 2 ^ 31) : vp_in (nI i) n := nI_in h hn
theorem i32lt {n : Nat} (h : n ≤ 1000000) : n < 2 ^ 31 := by omega
-- scratch cells of the class's store
def scX (c k : Nat) : Prop := c = 8 ∨ c = 15 ∨ c = 17 ∨ c = 18 ∨ (c = 0 ∧ (k = 9 ∨ k = 10)) ∨ (20 ≤ c ∧ c < 44 ∧ (c % 4 = 3 ∨ (c % 4 = 0 ∧ k = 4)))
def EqX (σ τ : St) : Prop := (∀ c k, gR τ c k = gR σ c k) ∧ ∀ c k, ¬ scX c k → gI τ c k = gI σ c k
theorem EqX.rf (σ : St) : EqX σ σ := ⟨fun _ _ => rfl, fun _ _ _ => rfl⟩
theorem EqX.tr {σ τ υ : St} (h : EqX σ τ) (g : EqX τ υ) : EqX σ υ := ⟨fun c k => (g.1 c k).trans (h.1 c k), fun c k n => (g.2 c k n).trans (h.2 c k n)⟩
theorem EqX.sy {σ τ : St} (h : EqX σ τ) : EqX τ σ := ⟨fun c k => (h.1 c k).symm, fun c k n => (h.2 c k n).symm⟩
theorem EqX.uI {σ τ : St} (h : EqX σ τ) {c k : Nat} {v : Int32} (hs : scX c k) : EqX σ (uI τ c k v) := by
  refine ⟨h.1, fun a b n => ?_⟩
  rw [gI_uI, if_neg, h.2 a b n]
  rintro ⟨rfl, rfl⟩
  exact n hs
theorem EqX.uJ {σ τ : St} (h : EqX σ τ) {c k : Nat} {v : Int64} : EqX σ (uJ τ c k v) := ⟨h.1, h.2⟩
theorem EqX.rI {σ τ : St} (h : EqX σ τ) {c : Nat} {f : Nat → Int32} (hs : ∀ k, scX c k) : EqX σ (rI τ c f) := by
  refine ⟨h.1, fun a b n => ?_⟩
  rw [gI_rI, if_neg, h.2 a b n]
  rintro rfl
  exact n (hs b)
-- scratch cells of the reference's store
def scR (c k : Nat) : Prop := c = 22 ∨ c = 23 ∨ c = 24 ∨ c = 25 ∨ (c = 0 ∧ ((36 ≤ k ∧ k ≤ 50) ∨ k = 53 ∨ k = 54))
def EqR (σ τ : St) : Prop := ∀ c k, ¬ scR c k → gI τ c k = gI σ c k
theorem EqR.rf (σ : St) : EqR σ σ := fun _ _ _ => rfl
theorem EqR.tr {σ τ υ : St} (h : EqR σ τ) (g : EqR τ υ) : EqR σ υ := fun c k n => (g c k n).trans (h c k n)
theorem EqR.sy {σ τ : St} (h : EqR σ τ) : EqR τ σ := fun c k n => (h c k n).symm
theorem EqR.uI {σ τ : St} (h : EqR σ τ) {c k : Nat} {v : Int32} (hs : scR c k) : EqR σ (uI τ c k v) := by
  intro a b n
  rw [gI_uI, if_neg, h a b n]
  rintro ⟨rfl, rfl⟩
  exact n hs
theorem EqR.uJ {σ τ : St} (h : EqR σ τ) {c k : Nat} {v : Int64} : EqR σ (uJ τ c k v) := h
-- THE VIEW
abbrev Vw : Type := Nat → Nat → Nat
def bO (W : Vw) (k : Nat) : Nat := 72 + 8 * k + W 10 k
/-- bounds, and that the order of the belts is one -/
def Iv (W : Vw) : Prop :=
  (W 0 0 ≤ 8 ∧ W 0 1 ≤ 999 ∧ 1 ≤ W 0 1 ∧ W 0 2 ≤ 9999 ∧ W 0 3 ≤ 10 ∧ W 0 4 ≤ 7) ∧
  (∀ s, s < W 0 0 → W 1 s ≤ 99 ∧ W 2 s ≤ 9999) ∧
  (∀ m, m < W 0 3 → W 3 m < W 0 0 ∧ W 4 m ≤ 10998 ∧ W 5 m ≤ 9999 ∧ W 6 m ≤ 9999 ∧ W 7 m ≤ 24 ∧ W 8 m ≤ 1) ∧
  (∀ k, k < W 0 4 → W 10 k ≤ 5 ∧ W 11 k < W 0 0 ∧ W 12 k < W 0 0 ∧ 1 ≤ W 12 k ∧ 1 ≤ W 13 k ∧ W 13 k ≤ 999 ∧ W 14 k ≤ 1 ∧ 1 ≤ W 15 k ∧ W 15 k ≤ 99 ∧ 1 ≤ W 16 k ∧ W 16 k ≤ 99) ∧
  (∀ j k, j < W 0 4 → k < W 0 4 → W 12 j = W 12 k → j = k) ∧
  (∀ i, i < W 0 4 → W 17 i < W 0 4) ∧ (∀ k, k < W 0 4 → ∃ i, i < W 0 4 ∧ W 17 i = k) ∧
  (∀ i j, i < W 0 4 → j < W 0 4 → W 12 j = W 11 (W 17 i) → ∃ i', i' < i ∧ W 17 i' = j)
theorem Iv.c {W : Vw} (h : Iv W) : W 0 0 ≤ 8 ∧ W 0 1 ≤ 999 ∧ 1 ≤ W 0 1 ∧ W 0 2 ≤ 9999 ∧ W 0 3 ≤ 10 ∧ W 0 4 ≤ 7 := h.1
theorem Iv.s {W : Vw} (h : Iv W) {s : Nat} (hs : s < W 0 0) : W 1 s ≤ 99 ∧ W 2 s ≤ 9999 := h.2.1 s hs
theorem Iv.m {W : Vw} (h : Iv W) {m : Nat} (hm : m < W 0 3) : W 3 m < W 0 0 ∧ W 4 m ≤ 10998 ∧ W 5 m ≤ 9999 ∧ W 6 m ≤ 9999 ∧ W 7 m ≤ 24 ∧ W 8 m ≤ 1 := h.2.2.1 m hm
theorem Iv.b {W : Vw} (h : Iv W) {k : Nat} (hk : k < W 0 4) : W 10 k ≤ 5 ∧ W 11 k < W 0 0 ∧ W 12 k < W 0 0 ∧ 1 ≤ W 12 k ∧ 1 ≤ W 13 k ∧ W 13 k ≤ 999 ∧ W 14 k ≤ 1 ∧ 1 ≤ W 15 k ∧ W 15 k ≤ 99 ∧ 1 ≤ W 16 k ∧ W 16 k ≤ 99 := h.2.2.2.1 k hk
theorem Iv.dj {W : Vw} (h : Iv W) {j k : Nat} (hj : j < W 0 4) (hk : k < W 0 4) (e : W 12 j = W 12 k) : j = k := h.2.2.2.2.1 j k hj hk e
theorem Iv.ol {W : Vw} (h : Iv W) {i : Nat} (hi : i < W 0 4) : W 17 i < W 0 4 := h.2.2.2.2.2.1 i hi
theorem Iv.os {W : Vw} (h : Iv W) {k : Nat} (hk : k < W 0 4) : ∃ i, i < W 0 4 ∧ W 17 i = k := h.2.2.2.2.2.2.1 k hk
theorem Iv.ot {W : Vw} (h : Iv W) {i j : Nat} (hi : i < W 0 4) (hj : j < W 0 4) (e : W 12 j = W 11 (W 17 i)) : ∃ i', i' < i ∧ W 17 i' = j := h.2.2.2.2.2.2.2 i j hi hj e
/-- the class's store shows W -/
def MX (W : Vw) (ids : List Nat) (σ : St) : Prop :=
  (gI σ 1 0 = nI (W 0 0) ∧ gI σ 1 1 = nI (W 0 3) ∧ gI σ 1 3 = nI (W 0 4) ∧ gI σ 1 14 = nI (W 0 1) ∧ gI σ 1 15 = nI (W 0 2)) ∧
  (∀ s, s < W 0 0 → gI σ 3 s = nI (W 1 s) ∧ gI σ 4 s = nI (W 2 s)) ∧
  (∀ m, m < W 0 3 → gR σ 9 m = some (60 + m) ∧ (60 + m) ∈ ids ∧ gI σ (60 + m) 0 = nI (W 3 m) ∧ gI σ (60 + m) 1 = nI (W 5 m) ∧ gI σ (60 + m) 2 = nI (W 6 m) ∧ gI σ (60 + m) 3 = nI (W 4 m) ∧ gI σ (60 + m) 4 = nI (W 7 m) ∧ gI σ (60 + m) 5 = nI (W 8 m)) ∧
  (∀ k, k < W 0 4 → gR σ 11 k = some (bO W k) ∧ bO W k ∈ ids ∧ gI σ (bO W k) 0 = nI (W 10 k) ∧ gI σ (bO W k) 1 = nI (W 11 k) ∧ gI σ (bO W k) 2 = nI (W 12 k) ∧ gI σ (bO W k) 3 = nI (W 13 k) ∧ gI σ (bO W k) 6 = nI (W 15 k) ∧ gI σ (bO W k) 7 = nI (W 16 k) ∧ gI σ (bO W k) 8 = nI (W 14 k)) ∧
  (∀ i, i < W 0 4 → gI σ 12 i = nI (W 17 i))
theorem MX.sh {W : Vw} {ids : List Nat} {σ : St} (h : MX W ids σ) : gI σ 1 0 = nI (W 0 0) := h.1.1
theorem MX.ms {W : Vw} {ids : List Nat} {σ : St} (h : MX W ids σ) : gI σ 1 1 = nI (W 0 3) := h.1.2.1
theorem MX.bs {W : Vw} {ids : List Nat} {σ : St} (h : MX W ids σ) : gI σ 1 3 = nI (W 0 4) := h.1.2.2.1
theorem MX.et {W : Vw} {ids : List Nat} {σ : St} (h : MX W ids σ) : gI σ 1 14 = nI (W 0 1) := h.1.2.2.2.1
theorem MX.pw {W : Vw} {ids : List Nat} {σ : St} (h : MX W ids σ) : gI σ 1 15 = nI (W 0 2) := h.1.2.2.2.2
theorem MX.s {W : Vw} {ids : List Nat} {σ : St} (h : MX W ids σ) {s : Nat} (hs : s < W 0 0) : gI σ 3 s = nI (W 1 s) ∧ gI σ 4 s = nI (W 2 s) := h.2.1 s hs
theorem MX.m {W : Vw} {ids : List Nat} {σ : St} (h : MX W ids σ) {m : Nat} (hm : m < W 0 3) : gR σ 9 m = some (60 + m) ∧ (60 + m) ∈ ids ∧ gI σ (60 + m) 0 = nI (W 3 m) ∧ gI σ (60 + m) 1 = nI (W 5 m) ∧ gI σ (60 + m) 2 = nI (W 6 m) ∧ gI σ (60 + m) 3 = nI (W 4 m) ∧ gI σ (60 + m) 4 = nI (W 7 m) ∧ gI σ (60 + m) 5 = nI (W 8 m) := h.2.2.1 m hm
theorem MX.b {W : Vw} {ids : List Nat} {σ : St} (h : MX W ids σ) {k : Nat} (hk : k < W 0 4) : gR σ 11 k = some (bO W k) ∧ bO W k ∈ ids ∧ gI σ (bO W k) 0 = nI (W 10 k) ∧ gI σ (bO W k) 1 = nI (W 11 k) ∧ gI σ (bO W k) 2 = nI (W 12 k) ∧ gI σ (bO W k) 3 = nI (W 13 k) ∧ gI σ (bO W k) 6 = nI (W 15 k) ∧ gI σ (bO W k) 7 = nI (W 16 k) ∧ gI σ (bO W k) 8 = nI (W 14 k) := h.2.2.2.1 k hk
theorem MX.o {W : Vw} {ids : List Nat} {σ : St} (h : MX W ids σ) {i : Nat} (hi : i < W 0 4) : gI σ 12 i = nI (W 17 i) := h.2.2.2.2 i hi
theorem MX.okM {W : Vw} {ids : List Nat} {σ : St} (h : MX W ids σ) (hv : Iv W) {m : Nat} (hm : m < W 0 3) : okM ids (60 + m) := ⟨(h.m hm).2.1, by omega, by have := hv.c; omega⟩
theorem bO_r {W : Vw} (hv : Iv W) {k : Nat} (hk : k < W 0 4) : 72 ≤ bO W k ∧ bO W k < 128 ∧ bO W k % 8 = W 10 k ∧ bO W k % 8 < 6 := by
  have := hv.c
  have := (hv.b hk).1
  unfold bO
  omega
theorem MX.okB {W : Vw} {ids : List Nat} {σ : St} (h : MX W ids σ) (hv : Iv W) {k : Nat} (hk : k < W 0 4) : okB ids (bO W k) := by
  have := bO_r hv hk
  exact ⟨(h.b hk).2.1, this.1, this.2.1, this.2.2.2⟩
theorem MX.eq {W : Vw} {ids : List Nat} {σ τ : St} (hv : Iv W) (h : MX W ids σ) (e : EqX σ τ) : MX W ids τ := by
  have hc := hv.c
  refine ⟨?_, ?_, ?_, ?_, ?_⟩
  · obtain ⟨h1, h2, h3, h4, h5⟩ := h.1
    refine ⟨?_, ?_, ?_, ?_, ?_⟩
    all_goals rw [e.2 _ _ (by unfold scX; omega)]
    all_goals assumption
  · intro s hs
    obtain ⟨h1, h2⟩ := h.s hs
    refine ⟨?_, ?_⟩
    all_goals rw [e.2 _ _ (by unfold scX; omega)]
    all_goals assumption
  · intro m hm
    obtain ⟨h1, h2, h3, h4, h5, h6, h7, h8⟩ := h.m hm
    refine ⟨by rw [e.1]; exact h1, h2, ?_, ?_, ?_, ?_, ?_, ?_⟩
    all_goals rw [e.2 _ _ (by unfold scX; omega)]
    all_goals assumption
  · intro k hk
    have hr := bO_r hv hk
    obtain ⟨h1, h2, h3, h4, h5, h6, h7, h8, h9⟩ := h.b hk
    refine ⟨by rw [e.1]; exact h1, h2, ?_, ?_, ?_, ?_, ?_, ?_, ?_⟩
    all_goals rw [e.2 _ _ (by unfold scX; omega)]
    all_goals assumption
  · intro i hi
    rw [e.2 _ _ (by unfold scX; omega)]
    exact h.o hi
/-- the reference's store shows W -/
def MR (W : Vw) (ρ : St) : Prop :=
  (gI ρ 0 9 = nI (W 0 0) ∧ gI ρ 0 18 = nI (W 0 3) ∧ gI ρ 0 28 = nI (W 0 4) ∧ gI ρ 0 10 = nI (W 0 1) ∧ gI ρ 0 11 = nI (W 0 2)) ∧
  (∀ s, s < W 0 0 → gI ρ 4 s = nI (W 1 s) ∧ gI ρ 5 s = nI (W 2 s)) ∧
  (∀ m, m < W 0 3 → gI ρ 6 m = nI (W 3 m) ∧ gI ρ 8 m = nI (W 5 m) ∧ gI ρ 9 m = nI (W 6 m) ∧ ((¬ nI m = gI ρ 0 34 → gI ρ 7 m = nI (W 4 m)) ∧ (nI m = gI ρ 0 34 → gI ρ 7 m + gI ρ 0 35 = nI (W 4 m))) ∧ gI ρ 10 m = nI (W 7 m) ∧ gI ρ 11 m = nI (W 8 m)) ∧
  (∀ k, k < W 0 4 → gI ρ 13 k = nI (W 10 k) ∧ gI ρ 14 k = nI (W 11 k) ∧ gI ρ 15 k = nI (W 12 k) ∧ gI ρ 18 k = nI (W 13 k) ∧ gI ρ 19 k = nI (W 14 k) ∧ (∃ d, d < 12 ∧ gI ρ 16 k = nI d ∧ gI ρ 12 d = nI (W 15 k)) ∧ ((¬ nI k = gI ρ 0 29 → ∃ d, d < 12 ∧ gI ρ 17 k = nI d ∧ gI ρ 12 d = nI (W 16 k)) ∧ (nI k = gI ρ 0 29 → gI ρ 0 30 = nI (W 16 k))))
theorem MR.sh {W : Vw} {ρ : St} (h : MR W ρ) : gI ρ 0 9 = nI (W 0 0) := h.1.1
theorem MR.ms {W : Vw} {ρ : St} (h : MR W ρ) : gI ρ 0 18 = nI (W 0 3) := h.1.2.1
theorem MR.bs {W : Vw} {ρ : St} (h : MR W ρ) : gI ρ 0 28 = nI (W 0 4) := h.1.2.2.1
theorem MR.et {W : Vw} {ρ : St} (h : MR W ρ) : gI ρ 0 10 = nI (W 0 1) := h.1.2.2.2.1
theorem MR.pw {W : Vw} {ρ : St} (h : MR W ρ) : gI ρ 0 11 = nI (W 0 2) := h.1.2.2.2.2
theorem MR.s {W : Vw} {ρ : St} (h : MR W ρ) {s : Nat} (hs : s < W 0 0) : gI ρ 4 s = nI (W 1 s) ∧ gI ρ 5 s = nI (W 2 s) := h.2.1 s hs
theorem MR.m {W : Vw} {ρ : St} (h : MR W ρ) {m : Nat} (hm : m < W 0 3) : gI ρ 6 m = nI (W 3 m) ∧ gI ρ 8 m = nI (W 5 m) ∧ gI ρ 9 m = nI (W 6 m) ∧ ((¬ nI m = gI ρ 0 34 → gI ρ 7 m = nI (W 4 m)) ∧ (nI m = gI ρ 0 34 → gI ρ 7 m + gI ρ 0 35 = nI (W 4 m))) ∧ gI ρ 10 m = nI (W 7 m) ∧ gI ρ 11 m = nI (W 8 m) := h.2.2.1 m hm
theorem MR.b {W : Vw} {ρ : St} (h : MR W ρ) {k : Nat} (hk : k < W 0 4) : gI ρ 13 k = nI (W 10 k) ∧ gI ρ 14 k = nI (W 11 k) ∧ gI ρ 15 k = nI (W 12 k) ∧ gI ρ 18 k = nI (W 13 k) ∧ gI ρ 19 k = nI (W 14 k) ∧ (∃ d, d < 12 ∧ gI ρ 16 k = nI d ∧ gI ρ 12 d = nI (W 15 k)) ∧ ((¬ nI k = gI ρ 0 29 → ∃ d, d < 12 ∧ gI ρ 17 k = nI d ∧ gI ρ 12 d = nI (W 16 k)) ∧ (nI k = gI ρ 0 29 → gI ρ 0 30 = nI (W 16 k))) := h.2.2.2 k hk
theorem MR.eq {W : Vw} {σ τ : St} (h : MR W σ) (e : EqR σ τ) : MR W τ := by
  have e2 : ∀ c k, ¬ scR c k → gI τ c k = gI σ c k := e
  have q : ∀ c k, (c ≠ 0 ∧ c < 22 ∨ c = 0 ∧ k < 36) → gI τ c k = gI σ c k := fun c k h => e2 c k (by unfold scR; omega)
  unfold MR
  rw [q 0 9 (by omega), q 0 18 (by omega), q 0 28 (by omega), q 0 10 (by omega), q 0 11 (by omega), q 0 34 (by omega), q 0 35 (by omega), q 0 29 (by omega), q 0 30 (by omega)]
  have e3 : ∀ c, c ≠ 0 → c < 22 → ∀ k, gI τ c k = gI σ c k := fun c h0 h1 k => q c k (by omega)
  simp only [e3 4 (by omega) (by omega), e3 5 (by omega) (by omega), e3 6 (by omega) (by omega), e3 7 (by omega) (by omega), e3 8 (by omega) (by omega), e3 9 (by omega) (by omega), e3 10 (by omega) (by omega), e3 11 (by omega) (by omega), e3 12 (by omega) (by omega), e3 13 (by omega) (by omega), e3 14 (by omega) (by omega), e3 15 (by omega) (by omega), e3 16 (by omega) (by omega), e3 17 (by omega) (by omega), e3 18 (by omega) (by omega), e3 19 (by omega) (by omega)]
  exact h
