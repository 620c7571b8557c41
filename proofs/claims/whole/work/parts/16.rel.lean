/-! PURE: the two worlds stand alike -/
/-- the belt, on or off, that drives a shaft, among the first n -/
def du (W : Vw) (n s : Nat) : Option Nat := match n with
  | 0 => none
  | n + 1 => if W 12 n = s then some n else du W n s
theorem du_s (W : Vw) (n s : Nat) : du W (n + 1) s = if W 12 n = s then some n else du W n s := rfl
theorem du_some {W : Vw} {n s k : Nat} (h : du W n s = some k) : k < n ∧ W 12 k = s := by
  induction n with
  | zero => exact absurd h (by simp [du])
  | succ n ih =>
    rw [du_s] at h
    split at h
    · rename_i c
      obtain rfl := Option.some.inj h
      exact ⟨Nat.lt_succ_self _, c⟩
    · have := ih h
      exact ⟨Nat.lt_succ_of_lt this.1, this.2⟩
theorem du_none {W : Vw} {n s : Nat} (h : du W n s = none) : ∀ k, k < n → ¬ W 12 k = s := by
  induction n with
  | zero => intro k hk; exact absurd hk (Nat.not_lt_zero _)
  | succ n ih =>
    rw [du_s] at h
    split at h
    · exact absurd h (by simp)
    · rename_i c
      intro k hk e
      rcases Nat.lt_or_ge k n with g | g
      · exact ih h k g e
      · have : k = n := by omega
        subst this
        exact c e
theorem du_cg {W W' : Vw} (h : ∀ k, W' 12 k = W 12 k) (n s : Nat) : du W' n s = du W n s := by
  induction n with
  | zero => rfl
  | succ n ih => rw [du_s, du_s, h, ih]
def oI (o : Option Nat) : Int32 := match o with
  | none => -1
  | some k => nI k
/-- what else the numbers keep: drums, the image, the texts' count, the tape -/
def Dv (W : Vw) : Prop :=
  (W 0 5 ≤ 12 ∧ W 0 6 ≤ 1 ∧ W 0 7 ≤ W 0 4 ∧ W 0 8 ≤ W 0 3 ∧ 1 ≤ W 0 12 ∧ W 0 12 ≤ 6 ∧ W 0 13 < W 0 12 ∧ W 0 14 ≤ 160) ∧
  (W 0 6 = 1 → 1 ≤ W 0 9 ∧ W 0 9 ≤ 999 ∧ W 0 10 ≤ 9999 ∧ W 0 11 < W 0 12) ∧
  (∀ d, d < W 0 5 → 1 ≤ W 20 d ∧ W 20 d ≤ 99) ∧
  (∀ k, k < W 0 4 → W 18 k < W 0 5 ∧ W 19 k < W 0 5 ∧ W 18 k ≠ W 19 k ∧ W 15 k = W 20 (W 18 k) ∧ W 16 k = W 20 (W 19 k)) ∧
  (∀ m, m < W 0 3 → W 4 m ≤ 999) ∧
  (∀ k, k < W 0 7 → W 21 k < W 0 5 ∧ W 22 k < W 0 5 ∧ W 21 k ≠ W 22 k ∧ W 23 k ≤ 1) ∧
  (∀ m, m < W 0 8 → W 24 m ≤ 999 ∧ W 25 m ≤ 1) ∧
  (∀ i, i < W 0 14 → W 26 i < 256)
def DX (W : Vw) (σ : St) : Prop := gI σ 1 2 = nI (W 0 5) ∧ (∀ d, d < W 0 5 → gI σ 10 d = nI (W 20 d)) ∧ (∀ k, k < W 0 4 → gI σ (bO W k) 4 = nI (W 18 k) ∧ gI σ (bO W k) 5 = nI (W 19 k)) ∧ (∀ s, s < W 0 0 → gI σ 5 s = oI (du W (W 0 4) s))
def IX (W : Vw) (σ : St) : Prop := (gI σ 0 11 = nI (W 0 6) ∧ gI σ 0 12 = nI (W 0 11) ∧ gI σ 1 16 = nI (W 0 9) ∧ gI σ 1 17 = nI (W 0 10)) ∧
  (∀ m, m < W 0 3 → gI σ (60 + m) 6 = (if m < W 0 8 then 1 else 0) ∧ (m < W 0 8 → gI σ (60 + m) 7 = nI (W 25 m) ∧ gI σ (60 + m) 8 = nI (W 24 m))) ∧
  (∀ k, k < W 0 4 → gI σ (bO W k) 9 = (if k < W 0 7 then 1 else 0) ∧ (k < W 0 7 → gI σ (bO W k) 10 = nI (W 23 k) ∧ gI σ (bO W k) 11 = nI (W 21 k) ∧ gI σ (bO W k) 12 = nI (W 22 k)))
def TS (W : Vw) (σ : St) : Prop := gI σ 0 3 = nI (W 0 12) ∧ gI σ 0 4 = nI (W 0 13) ∧ gI σ 2 1 = nI (W 0 14) ∧ ∀ i, i < W 0 14 → gI σ 13 i = nI (W 26 i)
def DR (W : Vw) (ρ : St) : Prop := gI ρ 0 20 = nI (W 0 5) ∧ (∀ d, d < W 0 5 → gI ρ 12 d = nI (W 20 d)) ∧ (∀ k, k < W 0 4 → gI ρ 16 k = nI (W 18 k) ∧ gI ρ 17 k = nI (W 19 k)) ∧ gI ρ 0 29 = -1 ∧ gI ρ 0 34 = -1
def IR (W : Vw) (ρ : St) : Prop := (gI ρ 0 61 = nI (W 0 6) ∧ gI ρ 0 62 = nI (W 0 7) ∧ gI ρ 0 63 = nI (W 0 8) ∧ gI ρ 0 64 = nI (W 0 9) ∧ gI ρ 0 65 = nI (W 0 10) ∧ gI ρ 0 66 = nI (W 0 11)) ∧
  (∀ m, m < W 0 8 → gI ρ 29 m = nI (W 24 m) ∧ gI ρ 30 m = nI (W 25 m)) ∧
  (∀ k, k < W 0 7 → gI ρ 26 k = nI (W 21 k) ∧ gI ρ 27 k = nI (W 22 k) ∧ gI ρ 28 k = nI (W 23 k))
def TQ (W : Vw) (ρ : St) : Prop := gI ρ 0 3 = nI (W 0 12) ∧ gI ρ 0 4 = nI (W 0 13) ∧ gI ρ 0 6 = nI (W 0 14) ∧ ∀ i, i < W 0 14 → gI ρ 3 i = nI (W 26 i)
/-- cells there are, and whereto they point -/
def Fr (W : Vw) (ids : List Nat) (σ : St) : Prop := (∀ c, c < 52 ∧ ¬ c = 19 → c ∈ ids) ∧ (∀ c, c ∈ ids → c < 52 ∨ (∃ m, m < W 0 3 ∧ c = 60 + m) ∨ ∃ k, k < W 0 4 ∧ c = bO W k) ∧ ∀ c, c ∈ ids → ∀ k d, gR σ c k = some d → d ∈ ids
-- texts
def TXt (L0 L1 L2 : List Int32) (σ : St) (t : Nat) : Prop := (∀ i, i < (L0 ++ L1 ++ L2).length → gI σ (21 + 4 * t) i = (L0 ++ L1 ++ L2).getD i 0) ∧ gI σ (22 + 4 * t) 0 = nI L0.length ∧ gI σ (22 + 4 * t) 1 = nI (L0 ++ L1).length ∧ gI σ (22 + 4 * t) 2 = nI (L0 ++ L1 ++ L2).length
def TRt (b : By) (n : Nat) (ρ : St) (t : Nat) : Prop := gI ρ 2 t = nI n ∧ n ≤ 160 ∧ ∀ i, i < n → b i < 256 ∧ gI ρ 1 (160 * t + i) = nI (b i)
def Tx (σ ρ : St) (t : Nat) : Prop := ∃ b n L0 L1 L2, TRt b n ρ t ∧ pAll b n = .ok (L0, L1, L2) ∧ TXt L0 L1 L2 σ t
theorem Tx.cg {σ ρ σ' ρ' : St} {t : Nat} (h : Tx σ ρ t) (e1 : ∀ k, gI σ' (21 + 4 * t) k = gI σ (21 + 4 * t) k) (e2 : ∀ k, gI σ' (22 + 4 * t) k = gI σ (22 + 4 * t) k) (e3 : ∀ k, gI ρ' 1 k = gI ρ 1 k) (e4 : ∀ k, gI ρ' 2 k = gI ρ 2 k) : Tx σ' ρ' t := by
  obtain ⟨b, n, L0, L1, L2, h1, h2, h3⟩ := h
  refine ⟨b, n, L0, L1, L2, ?_, h2, ?_⟩
  · unfold TRt
    rw [e4]
    refine ⟨h1.1, h1.2.1, fun i hi => ?_⟩
    rw [e3]
    exact h1.2.2 i hi
  · unfold TXt
    rw [e2, e2, e2]
    refine ⟨fun i hi => ?_, h3.2⟩
    rw [e1]
    exact h3.1 i hi
-- sheets
def Sh1 (σ ρ : St) (s : Nat) : Prop := (gI σ (44 + 2 * s) 0 = -1 ∧ gI ρ 31 s = 0) ∨ ∃ t n, t < 3 ∧ n ≤ 40 ∧ gI σ (44 + 2 * s) 0 = nI t ∧ gI σ (44 + 2 * s) 1 = nI n ∧ gI ρ 31 s = 1 ∧ gI ρ 32 s = nI t ∧ gI ρ 33 s = nI n ∧ ∀ i, i < n → gI σ (45 + 2 * s) i = gI ρ 34 (40 * s + i)
theorem Sh1.cg {σ ρ σ' ρ' : St} {s : Nat} (h : Sh1 σ ρ s) (e1 : ∀ k, gI σ' (44 + 2 * s) k = gI σ (44 + 2 * s) k) (e2 : ∀ k, gI σ' (45 + 2 * s) k = gI σ (45 + 2 * s) k) (e3 : gI ρ' 31 s = gI ρ 31 s) (e4 : gI ρ' 32 s = gI ρ 32 s) (e5 : gI ρ' 33 s = gI ρ 33 s) (e6 : ∀ i, i < 40 → gI ρ' 34 (40 * s + i) = gI ρ 34 (40 * s + i)) : Sh1 σ' ρ' s := by
  unfold Sh1
  rw [e1, e1, e3, e4, e5]
  rcases h with h | ⟨t, n, h1, h2, h3, h4, h5, h6, h7, h8⟩
  · exact Or.inl h
  · refine Or.inr ⟨t, n, h1, h2, h3, h4, h5, h6, h7, fun i hi => ?_⟩
    rw [e2, e6 i (by omega)]
    exact h8 i hi
/-- the view W of both -/
def RX (W : Vw) (ids : List Nat) (σ : St) : Prop := Fr W ids σ ∧ MX W ids σ ∧ DX W σ ∧ IX W σ ∧ TS W σ
def RR (W : Vw) (ρ : St) : Prop := MR W ρ ∧ DR W ρ ∧ IR W ρ ∧ TQ W ρ
def RW (W : Vw) (ids : List Nat) (σ ρ : St) : Prop := (Iv W ∧ Dv W) ∧ RX W ids σ ∧ RR W ρ ∧ (∀ t, t < W 0 12 → Tx σ ρ t) ∧ ∀ s, s < 4 → Sh1 σ ρ s
def Rel (ids : List Nat) (σ ρ : St) : Prop := (∀ c, c < 52 ∧ ¬ c = 19 → c ∈ ids) ∧ ∃ W, RW W ids σ ρ
theorem RW.rel {W : Vw} {ids : List Nat} {σ ρ : St} (h : RW W ids σ ρ) : Rel ids σ ρ := ⟨h.2.1.1.1, W, h⟩
-- what each part looks at
def cM (a b : Nat) : Prop := (a = 0 ∧ b ≤ 4) ∨ (1 ≤ a ∧ a ≤ 8) ∨ (10 ≤ a ∧ a ≤ 17)
def kM (c k : Nat) : Prop := (c = 1 ∧ (k = 0 ∨ k = 1 ∨ k = 3 ∨ k = 14 ∨ k = 15)) ∨ c = 3 ∨ c = 4 ∨ c = 12 ∨ (60 ≤ c ∧ c < 70 ∧ k ≤ 5) ∨ (72 ≤ c ∧ (k ≤ 3 ∨ k = 6 ∨ k = 7 ∨ k = 8))
theorem bO_cg {W W' : Vw} {k : Nat} (h : W' 10 k = W 10 k) : bO W' k = bO W k := by unfold bO; rw [h]
theorem Iv.fr {W W' : Vw} (h : Iv W) (hW : ∀ a b, cM a b → W' a b = W a b) : Iv W' := by
  have w : ∀ b, b ≤ 4 → W' 0 b = W 0 b := fun b hb => hW 0 b (by unfold cM; omega)
  have g : ∀ a, (1 ≤ a ∧ a ≤ 8) ∨ (10 ≤ a ∧ a ≤ 17) → ∀ b, W' a b = W a b := fun a ha b => hW a b (by unfold cM; omega)
  unfold Iv
  rw [w 0 (by omega), w 1 (by omega), w 2 (by omega), w 3 (by omega), w 4 (by omega)]
  simp only [g 1 (by omega), g 2 (by omega), g 3 (by omega), g 4 (by omega), g 5 (by omega), g 6 (by omega), g 7 (by omega), g 8 (by omega), g 10 (by omega), g 11 (by omega), g 12 (by omega), g 13 (by omega), g 14 (by omega), g 15 (by omega), g 16 (by omega), g 17 (by omega)]
  exact h
theorem MX.fr {W W' : Vw} {ids : List Nat} {σ τ : St} (h : MX W ids σ) (hv : Iv W) (hW : ∀ a b, cM a b → W' a b = W a b) (hI : ∀ c k, kM c k → gI τ c k = gI σ c k) (hR : ∀ c k, gR τ c k = gR σ c k) : MX W' ids τ := by
  have w : ∀ b, b ≤ 4 → W' 0 b = W 0 b := fun b hb => hW 0 b (by unfold cM; omega)
  have g : ∀ a, (1 ≤ a ∧ a ≤ 8) ∨ (10 ≤ a ∧ a ≤ 17) → ∀ b, W' a b = W a b := fun a ha b => hW a b (by unfold cM; omega)
  have gb : ∀ k, bO W' k = bO W k := fun k => bO_cg (g 10 (by omega) k)
  unfold MX
  rw [w 0 (by omega), w 1 (by omega), w 2 (by omega), w 3 (by omega), w 4 (by omega)]
  simp only [gb, hR, g 1 (by omega), g 2 (by omega), g 3 (by omega), g 4 (by omega), g 5 (by omega), g 6 (by omega), g 7 (by omega), g 8 (by omega), g 10 (by omega), g 11 (by omega), g 12 (by omega), g 13 (by omega), g 14 (by omega), g 15 (by omega), g 16 (by omega), g 17 (by omega)]
  have hc := hv.c
  refine ⟨?_, ?_, ?_, ?_, ?_⟩
  · obtain ⟨h1, h2, h3, h4, h5⟩ := h.1
    refine ⟨?_, ?_, ?_, ?_, ?_⟩
    all_goals rw [hI _ _ (by unfold kM; omega)]
    all_goals assumption
  · intro s hs
    obtain ⟨h1, h2⟩ := h.s hs
    refine ⟨?_, ?_⟩
    all_goals rw [hI _ _ (by unfold kM; omega)]
    all_goals assumption
  · intro m hm
    obtain ⟨h1, h2, h3, h4, h5, h6, h7, h8⟩ := h.m hm
    refine ⟨h1, h2, ?_, ?_, ?_, ?_, ?_, ?_⟩
    all_goals rw [hI _ _ (by unfold kM; omega)]
    all_goals assumption
  · intro k hk
    have hr := bO_r hv hk
    obtain ⟨h1, h2, h3, h4, h5, h6, h7, h8, h9⟩ := h.b hk
    refine ⟨h1, h2, ?_, ?_, ?_, ?_, ?_, ?_, ?_⟩
    all_goals rw [hI _ _ (by unfold kM; omega)]
    all_goals assumption
  · intro i hi
    rw [hI _ _ (by unfold kM; omega)]
    exact h.o hi
def cD (a b : Nat) : Prop := (a = 0 ∧ (b = 0 ∨ b = 4 ∨ b = 5)) ∨ a = 10 ∨ a = 12 ∨ a = 18 ∨ a = 19 ∨ a = 20
def kD (c k : Nat) : Prop := (c = 1 ∧ k = 2) ∨ c = 10 ∨ c = 5 ∨ (72 ≤ c ∧ (k = 4 ∨ k = 5))
theorem DX.fr {W W' : Vw} {σ τ : St} (h : DX W σ) (hv : Iv W) (hW : ∀ a b, cD a b → W' a b = W a b) (hI : ∀ c k, kD c k → gI τ c k = gI σ c k) : DX W' τ := by
  have w : ∀ b, (b = 0 ∨ b = 4 ∨ b = 5) → W' 0 b = W 0 b := fun b hb => hW 0 b (by unfold cD; omega)
  have g : ∀ a, (a = 10 ∨ a = 12 ∨ a = 18 ∨ a = 19 ∨ a = 20) → ∀ b, W' a b = W a b := fun a ha b => hW a b (by unfold cD; omega)
  have gb : ∀ k, bO W' k = bO W k := fun k => bO_cg (g 10 (by omega) k)
  obtain ⟨h1, h2, h3, h4⟩ := h
  unfold DX
  rw [w 0 (by omega), w 4 (by omega), w 5 (by omega)]
  simp only [gb, g 18 (by omega), g 19 (by omega), g 20 (by omega), du_cg (g 12 (by omega))]
  refine ⟨?_, ?_, ?_, ?_⟩
  · rw [hI _ _ (by unfold kD; omega)]; exact h1
  · intro d hd
    rw [hI _ _ (by unfold kD; omega)]
    exact h2 d hd
  · intro k hk
    have hr := bO_r hv hk
    rw [hI _ _ (by unfold kD; omega), hI _ _ (by unfold kD; omega)]
    exact h3 k hk
  · intro s hs
    rw [hI _ _ (by unfold kD; omega)]
    exact h4 s hs
def cI (a b : Nat) : Prop := (a = 0 ∧ (b = 3 ∨ b = 4 ∨ (6 ≤ b ∧ b ≤ 11))) ∨ a = 10 ∨ (21 ≤ a ∧ a ≤ 25)
def kI (c k : Nat) : Prop := (c = 0 ∧ (k = 11 ∨ k = 12)) ∨ (c = 1 ∧ (k = 16 ∨ k = 17)) ∨ (60 ≤ c ∧ c < 70 ∧ 6 ≤ k ∧ k ≤ 8) ∨ (72 ≤ c ∧ 9 ≤ k ∧ k ≤ 12)
theorem IX.fr {W W' : Vw} {σ τ : St} (h : IX W σ) (hv : Iv W) (hW : ∀ a b, cI a b → W' a b = W a b) (hI : ∀ c k, kI c k → gI τ c k = gI σ c k) : IX W' τ := by
  have w : ∀ b, (b = 3 ∨ b = 4 ∨ (6 ≤ b ∧ b ≤ 11)) → W' 0 b = W 0 b := fun b hb => hW 0 b (by unfold cI; omega)
  have g : ∀ a, (a = 10 ∨ (21 ≤ a ∧ a ≤ 25)) → ∀ b, W' a b = W a b := fun a ha b => hW a b (by unfold cI; omega)
  have gb : ∀ k, bO W' k = bO W k := fun k => bO_cg (g 10 (by omega) k)
  obtain ⟨⟨h1, h2, h3, h4⟩, h5, h6⟩ := h
  have hc := hv.c
  unfold IX
  rw [w 3 (by omega), w 4 (by omega), w 6 (by omega), w 7 (by omega), w 8 (by omega), w 9 (by omega), w 10 (by omega), w 11 (by omega)]
  simp only [gb, g 21 (by omega), g 22 (by omega), g 23 (by omega), g 24 (by omega), g 25 (by omega)]
  refine ⟨⟨?_, ?_, ?_, ?_⟩, ?_, ?_⟩
  · rw [hI _ _ (by unfold kI; omega)]; exact h1
  · rw [hI _ _ (by unfold kI; omega)]; exact h2
  · rw [hI _ _ (by unfold kI; omega)]; exact h3
  · rw [hI _ _ (by unfold kI; omega)]; exact h4
  · intro m hm
    rw [hI _ _ (by unfold kI; omega), hI _ _ (by unfold kI; omega), hI _ _ (by unfold kI; omega)]
    exact h5 m hm
  · intro k hk
    have hr := bO_r hv hk
    rw [hI _ _ (by unfold kI; omega), hI _ _ (by unfold kI; omega), hI _ _ (by unfold kI; omega), hI _ _ (by unfold kI; omega)]
    exact h6 k hk
def cT (a b : Nat) : Prop := (a = 0 ∧ (b = 12 ∨ b = 13 ∨ b = 14)) ∨ a = 26
def kT (c k : Nat) : Prop := (c = 0 ∧ (k = 3 ∨ k = 4)) ∨ (c = 2 ∧ k = 1) ∨ c = 13
theorem TS.fr {W W' : Vw} {σ τ : St} (h : TS W σ) (hW : ∀ a b, cT a b → W' a b = W a b) (hI : ∀ c k, kT c k → gI τ c k = gI σ c k) : TS W' τ := by
  obtain ⟨h1, h2, h3, h4⟩ := h
  unfold TS
  rw [hW 0 12 (by unfold cT; omega), hW 0 13 (by unfold cT; omega), hW 0 14 (by unfold cT; omega), hI _ _ (by unfold kT; omega), hI _ _ (by unfold kT; omega), hI _ _ (by unfold kT; omega)]
  refine ⟨h1, h2, h3, fun i hi => ?_⟩
  rw [hW 26 i (by unfold cT; omega), hI _ _ (by unfold kT; omega)]
  exact h4 i hi
theorem Fr.fr {W W' : Vw} {ids : List Nat} {σ τ : St} (h : Fr W ids σ) (h3 : W' 0 3 = W 0 3) (h4 : W' 0 4 = W 0 4) (h10 : ∀ k, W' 10 k = W 10 k) (hR : ∀ c k, gR τ c k = gR σ c k) : Fr W' ids τ := by
  have gb : ∀ k, bO W' k = bO W k := fun k => bO_cg (h10 k)
  unfold Fr
  rw [h3, h4]
  simp only [gb, hR]
  exact h
-- the reference's
def qM (c k : Nat) : Prop := (c = 0 ∧ (k = 9 ∨ k = 18 ∨ k = 28 ∨ k = 10 ∨ k = 11 ∨ k = 34 ∨ k = 35 ∨ k = 29 ∨ k = 30)) ∨ (4 ≤ c ∧ c ≤ 19)
theorem MR.fr {W W' : Vw} {ρ τ : St} (h : MR W ρ) (hW : ∀ a b, cM a b → W' a b = W a b) (hI : ∀ c k, qM c k → gI τ c k = gI ρ c k) : MR W' τ := by
  have w : ∀ b, b ≤ 4 → W' 0 b = W 0 b := fun b hb => hW 0 b (by unfold cM; omega)
  have g : ∀ a, (1 ≤ a ∧ a ≤ 8) ∨ (10 ≤ a ∧ a ≤ 17) → ∀ b, W' a b = W a b := fun a ha b => hW a b (by unfold cM; omega)
  have q : ∀ k, (k = 9 ∨ k = 18 ∨ k = 28 ∨ k = 10 ∨ k = 11 ∨ k = 34 ∨ k = 35 ∨ k = 29 ∨ k = 30) → gI τ 0 k = gI ρ 0 k := fun k hk => hI 0 k (by unfold qM; omega)
  have q2 : ∀ c, 4 ≤ c → c ≤ 19 → ∀ k, gI τ c k = gI ρ c k := fun c h1 h2 k => hI c k (by unfold qM; omega)
  unfold MR
  rw [w 0 (by omega), w 1 (by omega), w 2 (by omega), w 3 (by omega), w 4 (by omega), q 9 (by omega), q 18 (by omega), q 28 (by omega), q 10 (by omega), q 11 (by omega), q 34 (by omega), q 35 (by omega), q 29 (by omega), q 30 (by omega)]
  simp only [g 1 (by omega), g 2 (by omega), g 3 (by omega), g 4 (by omega), g 5 (by omega), g 6 (by omega), g 7 (by omega), g 8 (by omega), g 10 (by omega), g 11 (by omega), g 12 (by omega), g 13 (by omega), g 14 (by omega), g 15 (by omega), g 16 (by omega), q2 4 (by omega) (by omega), q2 5 (by omega) (by omega), q2 6 (by omega) (by omega), q2 7 (by omega) (by omega), q2 8 (by omega) (by omega), q2 9 (by omega) (by omega), q2 10 (by omega) (by omega), q2 11 (by omega) (by omega), q2 12 (by omega) (by omega), q2 13 (by omega) (by omega), q2 14 (by omega) (by omega), q2 15 (by omega) (by omega), q2 16 (by omega) (by omega), q2 17 (by omega) (by omega), q2 18 (by omega) (by omega), q2 19 (by omega) (by omega)]
  exact h
def qD (c k : Nat) : Prop := (c = 0 ∧ (k = 20 ∨ k = 29 ∨ k = 34)) ∨ c = 12 ∨ c = 16 ∨ c = 17
theorem DR.fr {W W' : Vw} {ρ τ : St} (h : DR W ρ) (hW : ∀ a b, cD a b → W' a b = W a b) (hI : ∀ c k, qD c k → gI τ c k = gI ρ c k) : DR W' τ := by
  have w : ∀ b, (b = 0 ∨ b = 4 ∨ b = 5) → W' 0 b = W 0 b := fun b hb => hW 0 b (by unfold cD; omega)
  have g : ∀ a, (a = 10 ∨ a = 12 ∨ a = 18 ∨ a = 19 ∨ a = 20) → ∀ b, W' a b = W a b := fun a ha b => hW a b (by unfold cD; omega)
  have q2 : ∀ c, (c = 12 ∨ c = 16 ∨ c = 17) → ∀ k, gI τ c k = gI ρ c k := fun c h1 k => hI c k (by unfold qD; omega)
  unfold DR
  rw [w 4 (by omega), w 5 (by omega), hI 0 20 (by unfold qD; omega), hI 0 29 (by unfold qD; omega), hI 0 34 (by unfold qD; omega)]
  simp only [g 18 (by omega), g 19 (by omega), g 20 (by omega), q2 12 (by omega), q2 16 (by omega), q2 17 (by omega)]
  exact h
def qI (c k : Nat) : Prop := (c = 0 ∧ 61 ≤ k ∧ k ≤ 66) ∨ (26 ≤ c ∧ c ≤ 30)
theorem IR.fr {W W' : Vw} {ρ τ : St} (h : IR W ρ) (hW : ∀ a b, cI a b → W' a b = W a b) (hI : ∀ c k, qI c k → gI τ c k = gI ρ c k) : IR W' τ := by
  have w : ∀ b, (b = 3 ∨ b = 4 ∨ (6 ≤ b ∧ b ≤ 11)) → W' 0 b = W 0 b := fun b hb => hW 0 b (by unfold cI; omega)
  have g : ∀ a, (a = 10 ∨ (21 ≤ a ∧ a ≤ 25)) → ∀ b, W' a b = W a b := fun a ha b => hW a b (by unfold cI; omega)
  have q : ∀ k, 61 ≤ k → k ≤ 66 → gI τ 0 k = gI ρ 0 k := fun k h1 h2 => hI 0 k (by unfold qI; omega)
  have q2 : ∀ c, 26 ≤ c → c ≤ 30 → ∀ k, gI τ c k = gI ρ c k := fun c h1 h2 k => hI c k (by unfold qI; omega)
  unfold IR
  rw [w 6 (by omega), w 7 (by omega), w 8 (by omega), w 9 (by omega), w 10 (by omega), w 11 (by omega), q 61 (by omega) (by omega), q 62 (by omega) (by omega), q 63 (by omega) (by omega), q 64 (by omega) (by omega), q 65 (by omega) (by omega), q 66 (by omega) (by omega)]
  simp only [g 21 (by omega), g 22 (by omega), g 23 (by omega), g 24 (by omega), g 25 (by omega), q2 26 (by omega) (by omega), q2 27 (by omega) (by omega), q2 28 (by omega) (by omega), q2 29 (by omega) (by omega), q2 30 (by omega) (by omega)]
  exact h
def qT (c k : Nat) : Prop := (c = 0 ∧ (k = 3 ∨ k = 4 ∨ k = 6)) ∨ c = 3
theorem TQ.fr {W W' : Vw} {ρ τ : St} (h : TQ W ρ) (hW : ∀ a b, cT a b → W' a b = W a b) (hI : ∀ c k, qT c k → gI τ c k = gI ρ c k) : TQ W' τ := by
  obtain ⟨h1, h2, h3, h4⟩ := h
  unfold TQ
  rw [hW 0 12 (by unfold cT; omega), hW 0 13 (by unfold cT; omega), hW 0 14 (by unfold cT; omega), hI _ _ (by unfold qT; omega), hI _ _ (by unfold qT; omega), hI _ _ (by unfold qT; omega)]
  refine ⟨h1, h2, h3, fun i hi => ?_⟩
  rw [hW 26 i (by unfold cT; omega), hI _ _ (by unfold qT; omega)]
  exact h4 i hi
def cV (a b : Nat) : Prop := (a = 0 ∧ (3 ≤ b ∧ b ≤ 14)) ∨ a = 4 ∨ a = 15 ∨ a = 16 ∨ (18 ≤ a ∧ a ≤ 26)
theorem Dv.fr {W W' : Vw} (h : Dv W) (hW : ∀ a b, cV a b → W' a b = W a b) : Dv W' := by
  have w : ∀ b, 3 ≤ b → b ≤ 14 → W' 0 b = W 0 b := fun b h1 h2 => hW 0 b (by unfold cV; omega)
  have g : ∀ a, (a = 4 ∨ a = 15 ∨ a = 16 ∨ (18 ≤ a ∧ a ≤ 26)) → ∀ b, W' a b = W a b := fun a ha b => hW a b (by unfold cV; omega)
  unfold Dv
  rw [w 3 (by omega) (by omega), w 4 (by omega) (by omega), w 5 (by omega) (by omega), w 6 (by omega) (by omega), w 7 (by omega) (by omega), w 8 (by omega) (by omega), w 9 (by omega) (by omega), w 10 (by omega) (by omega), w 11 (by omega) (by omega), w 12 (by omega) (by omega), w 13 (by omega) (by omega), w 14 (by omega) (by omega)]
  simp only [g 4 (by omega), g 15 (by omega), g 16 (by omega), g 18 (by omega), g 19 (by omega), g 20 (by omega), g 21 (by omega), g 22 (by omega), g 23 (by omega), g 24 (by omega), g 25 (by omega), g 26 (by omega)]
  exact h
/-- scratch may change -/
theorem RX.eq {W : Vw} {ids : List Nat} {σ τ : St} (hv : Iv W) (h : RX W ids σ) (e : EqX σ τ) : RX W ids τ := by
  obtain ⟨h1, h2, h3, h4, h5⟩ := h
  refine ⟨h1.fr rfl rfl (fun _ => rfl) e.1, h2.eq hv e, h3.fr hv (fun _ _ _ => rfl) ?_, h4.fr hv (fun _ _ _ => rfl) ?_, h5.fr (fun _ _ _ => rfl) ?_⟩
  · intro c k hk; exact e.2 c k (by unfold kD at hk; unfold scX; omega)
  · intro c k hk; exact e.2 c k (by unfold kI at hk; unfold scX; omega)
  · intro c k hk; exact e.2 c k (by unfold kT at hk; unfold scX; omega)
theorem RR.eq {W : Vw} {ρ τ : St} (h : RR W ρ) (e : EqR ρ τ) : RR W τ := by
  obtain ⟨h1, h2, h3, h4⟩ := h
  refine ⟨h1.eq e, h2.fr (fun _ _ _ => rfl) ?_, h3.fr (fun _ _ _ => rfl) ?_, h4.fr (fun _ _ _ => rfl) ?_⟩
  · intro c k hk; exact e c k (by unfold qD at hk; unfold scR; omega)
  · intro c k hk; exact e c k (by unfold qI at hk; unfold scR; omega)
  · intro c k hk; exact e c k (by unfold qT at hk; unfold scR; omega)
theorem RW.eq {W : Vw} {ids : List Nat} {σ ρ σ' ρ' : St} (h : RW W ids σ ρ) (e : EqX σ σ') (e2 : EqR ρ ρ') : RW W ids σ' ρ' := by
  obtain ⟨⟨h1, h1'⟩, h2, h3, h4, h5⟩ := h
  refine ⟨⟨h1, h1'⟩, h2.eq h1 e, h3.eq e2, fun t ht => ?_, fun s hs => ?_⟩
  · have := h1'.1
    refine (h4 t ht).cg (fun k => e.2 _ _ ?_) (fun k => e.2 _ _ ?_) (fun k => e2 _ _ ?_) (fun k => e2 _ _ ?_)
    · unfold scX; omega
    · unfold scX; omega
    · unfold scR; omega
    · unfold scR; omega
  · refine (h5 s hs).cg (fun k => e.2 _ _ ?_) (fun k => e.2 _ _ ?_) (e2 _ _ ?_) (e2 _ _ ?_) (e2 _ _ ?_) (fun k _ => e2 _ _ ?_)
    · unfold scX; omega
    · unfold scX; omega
    · unfold scR; omega
    · unfold scR; omega
    · unfold scR; omega
    · unfold scR; omega
theorem RW.iv {W : Vw} {ids : List Nat} {σ ρ : St} (h : RW W ids σ ρ) : Iv W := h.1.1
theorem RW.dv {W : Vw} {ids : List Nat} {σ ρ : St} (h : RW W ids σ ρ) : Dv W := h.1.2
theorem RW.fr {W : Vw} {ids : List Nat} {σ ρ : St} (h : RW W ids σ ρ) : Fr W ids σ := h.2.1.1
theorem RW.mx {W : Vw} {ids : List Nat} {σ ρ : St} (h : RW W ids σ ρ) : MX W ids σ := h.2.1.2.1
theorem RW.dx {W : Vw} {ids : List Nat} {σ ρ : St} (h : RW W ids σ ρ) : DX W σ := h.2.1.2.2.1
theorem RW.ix {W : Vw} {ids : List Nat} {σ ρ : St} (h : RW W ids σ ρ) : IX W σ := h.2.1.2.2.2.1
theorem RW.ts {W : Vw} {ids : List Nat} {σ ρ : St} (h : RW W ids σ ρ) : TS W σ := h.2.1.2.2.2.2
theorem RW.mr {W : Vw} {ids : List Nat} {σ ρ : St} (h : RW W ids σ ρ) : MR W ρ := h.2.2.1.1
theorem RW.dr {W : Vw} {ids : List Nat} {σ ρ : St} (h : RW W ids σ ρ) : DR W ρ := h.2.2.1.2.1
theorem RW.ir {W : Vw} {ids : List Nat} {σ ρ : St} (h : RW W ids σ ρ) : IR W ρ := h.2.2.1.2.2.1
theorem RW.tq {W : Vw} {ids : List Nat} {σ ρ : St} (h : RW W ids σ ρ) : TQ W ρ := h.2.2.1.2.2.2
theorem RW.tx {W : Vw} {ids : List Nat} {σ ρ : St} (h : RW W ids σ ρ) : ∀ t, t < W 0 12 → Tx σ ρ t := h.2.2.2.1
theorem RW.sh {W : Vw} {ids : List Nat} {σ ρ : St} (h : RW W ids σ ρ) : ∀ s, s < 4 → Sh1 σ ρ s := h.2.2.2.2
-- the tests of the calls' numbers
def wi (x y z : Int) : Bool := decide (y ≤ x ∧ x ≤ z)
theorem sX_within {ids : List Nat} {σ : St} {a lo hi : Int32} (y z : Int) (hy : lo.toInt = y) (hz : hi.toInt = z) {post : Int32 → St → Prop} (h : post (bI (wi a.toInt y z)) σ) : wX11_within ids a lo hi σ post := by
  unfold wX11_within
  rw [fb_lt, fb_lt, hy, hz]
  by_cases c1 : a.toInt < y
  · refine dt c1 ⟨isB_0, ?_⟩
    have e : wi a.toInt y z = false := by unfold wi; simp; omega
    rw [e] at h
    exact h
  · refine df c1 ?_
    by_cases c2 : z < a.toInt
    · refine dt c2 ⟨isB_0, ?_⟩
      have e : wi a.toInt y z = false := by unfold wi; simp; omega
      rw [e] at h
      exact h
    · refine df c2 ⟨isB_1, ?_⟩
      have e : wi a.toInt y z = true := by unfold wi; simp; omega
      rw [e] at h
      exact h
theorem sR_in {ρ : St} {a lo hi : Int64} (x y z : Int) (hx : a.toInt = x) (hy : lo.toInt = y) (hz : hi.toInt = z) {post : Int32 → St → Prop} (h : post (bI (wi x y z)) ρ) : wX12_in a lo hi ρ post := by
  unfold wX12_in
  rw [lg_cmp_lt, lg_cmp_gt, fb_ltL, fb_ltL, hx, hy, hz]
  by_cases c1 : x < y
  · refine dt c1 ⟨isB_0, ?_⟩
    have e : wi x y z = false := by unfold wi; simp; omega
    rw [e] at h
    exact h
  · refine df c1 ?_
    by_cases c2 : z < x
    · refine dt c2 ⟨isB_0, ?_⟩
      have e : wi x y z = false := by unfold wi; simp; omega
      rw [e] at h
      exact h
    · refine df c2 ⟨isB_1, ?_⟩
      have e : wi x y z = true := by unfold wi; simp; omega
      rw [e] at h
      exact h
theorem sR_inI {ρ : St} {a : Int32} {lo hi : Int64} (y z : Int) (hy : lo.toInt = y) (hz : hi.toInt = z) {post : Int32 → St → Prop} (h : post (bI (wi a.toInt y z)) ρ) : wX12_in a.toInt64 lo hi ρ post := sR_in _ y z (Int32.toInt_toInt64 a) hy hz h
theorem nI_m1 {n : Nat} (h : n < 2 ^ 31) : (nI n - 1).toInt = (n : Int) - 1 := by
  cases n with
  | zero => rw [nI_0]; decide
  | succ n => rw [nI_pred, fb_nI (by omega)]; omega
theorem nI_m1L {n : Nat} (h : n < 2 ^ 31) : (nI n - 1).toInt64.toInt = (n : Int) - 1 := by rw [Int32.toInt_toInt64, nI_m1 h]
/-- a number of a row of n -/
theorem wi_n {a : Int32} {n : Nat} (hn : n < 2 ^ 31) (h : wi a.toInt 0 ((n : Int) - 1) = true) : ∃ j, j < n ∧ a = nI j := by
  unfold wi at h
  have h' := of_decide_eq_true h
  obtain ⟨j, hj, e⟩ := fb_of (x := a) (N := n - 1) h'.1 (by omega)
  exact ⟨j, by omega, e⟩
theorem wi_k {a : Int32} {N : Nat} (h : wi a.toInt 0 N = true) : ∃ j, j ≤ N ∧ a = nI j := by
  unfold wi at h
  have h' := of_decide_eq_true h
  exact fb_of (x := a) (N := N) h'.1 h'.2
theorem wi_1 {a : Int32} {N : Nat} (hN : N < 2 ^ 31) (h : wi a.toInt 1 N = true) : ∃ j, 1 ≤ j ∧ j ≤ N ∧ a = nI j := by
  unfold wi at h
  have h' := of_decide_eq_true h
  obtain ⟨j, hj, e⟩ := fb_of (x := a) (N := N) (by omega) h'.2
  have : a.toInt = j := by rw [e, fb_nI (by omega)]
  exact ⟨j, by omega, hj, e⟩
theorem wi_t {j : Nat} {y z : Int} (hj : j < 2 ^ 31) (h1 : y ≤ j) (h2 : (j : Int) ≤ z) : wi (nI j).toInt y z = true := by
  unfold wi
  rw [fb_nI hj]
  simp [h1, h2]
theorem sX_isShaft {W : Vw} {ids : List Nat} {σ : St} (hv : Iv W) (hM : MX W ids σ) (a : Int32) {post : Int32 → St → Prop} (h : post (bI (wi a.toInt 0 ((W 0 0 : Int) - 1))) σ) : wX11_isShaft ids a σ post := by
  have hc := hv.c
  refine sX_within 0 ((W 0 0 : Int) - 1) rfl (by rw [hM.sh]; exact nI_m1 (by omega)) ⟨bI_B _, h⟩
theorem sX_isMachine {W : Vw} {ids : List Nat} {σ : St} (hv : Iv W) (hM : MX W ids σ) (a : Int32) {post : Int32 → St → Prop} (h : post (bI (wi a.toInt 0 ((W 0 3 : Int) - 1))) σ) : wX11_isMachine ids a σ post := by
  have hc := hv.c
  refine sX_within 0 ((W 0 3 : Int) - 1) rfl (by rw [hM.ms]; exact nI_m1 (by omega)) ⟨bI_B _, h⟩
theorem sX_isBelt {W : Vw} {ids : List Nat} {σ : St} (hv : Iv W) (hM : MX W ids σ) (a : Int32) {post : Int32 → St → Prop} (h : post (bI (wi a.toInt 0 ((W 0 4 : Int) - 1))) σ) : wX11_isBelt ids a σ post := by
  have hc := hv.c
  refine sX_within 0 ((W 0 4 : Int) - 1) rfl (by rw [hM.bs]; exact nI_m1 (by omega)) ⟨bI_B _, h⟩
theorem sX_isDrum {W : Vw} {ids : List Nat} {σ : St} (hd : Dv W) (hD : DX W σ) (a : Int32) {post : Int32 → St → Prop} (h : post (bI (wi a.toInt 0 ((W 0 5 : Int) - 1))) σ) : wX11_isDrum ids a σ post := by
  have hc := hd.1
  refine sX_within 0 ((W 0 5 : Int) - 1) rfl (by rw [hD.1]; exact nI_m1 (by omega)) ⟨bI_B _, h⟩
theorem sX_isKind {ids : List Nat} {σ : St} (a : Int32) {post : Int32 → St → Prop} (h : post (bI (wi a.toInt 0 5)) σ) : wX11_isKind ids a σ post := sX_within 0 5 rfl rfl ⟨bI_B _, h⟩
theorem sX_isSheet {ids : List Nat} {σ : St} (a : Int32) {post : Int32 → St → Prop} (h : post (bI (wi a.toInt 0 3)) σ) : wX11_isSheet ids a σ post := sX_within 0 3 rfl rfl ⟨bI_B _, h⟩
theorem sX_isSort {ids : List Nat} {σ : St} (a : Int32) {post : Int32 → St → Prop} (h : post (bI (wi a.toInt 0 2)) σ) : wX11_isSort ids a σ post := sX_within 0 2 rfl rfl ⟨bI_B _, h⟩
theorem sR_isShaft {W : Vw} {ρ : St} (hv : Iv W) (hR : MR W ρ) (a : Int32) {post : Int32 → St → Prop} (h : post (bI (wi a.toInt 0 ((W 0 0 : Int) - 1))) ρ) : wX12_isShaft a ρ post := by
  have hc := hv.c
  refine sR_inI 0 ((W 0 0 : Int) - 1) rfl (by rw [hR.sh]; exact nI_m1L (by omega)) ⟨bI_B _, h⟩
theorem sR_isMachine {W : Vw} {ρ : St} (hv : Iv W) (hR : MR W ρ) (a : Int32) {post : Int32 → St → Prop} (h : post (bI (wi a.toInt 0 ((W 0 3 : Int) - 1))) ρ) : wX12_isMachine a ρ post := by
  have hc := hv.c
  refine sR_inI 0 ((W 0 3 : Int) - 1) rfl (by rw [hR.ms]; exact nI_m1L (by omega)) ⟨bI_B _, h⟩
theorem sR_isBelt {W : Vw} {ρ : St} (hv : Iv W) (hR : MR W ρ) (a : Int32) {post : Int32 → St → Prop} (h : post (bI (wi a.toInt 0 ((W 0 4 : Int) - 1))) ρ) : wX12_isBelt a ρ post := by
  have hc := hv.c
  refine sR_inI 0 ((W 0 4 : Int) - 1) rfl (by rw [hR.bs]; exact nI_m1L (by omega)) ⟨bI_B _, h⟩
theorem sR_isDrum {W : Vw} {ρ : St} (hd : Dv W) (hD : DR W ρ) (a : Int32) {post : Int32 → St → Prop} (h : post (bI (wi a.toInt 0 ((W 0 5 : Int) - 1))) ρ) : wX12_isDrum a ρ post := by
  have hc := hd.1
  refine sR_inI 0 ((W 0 5 : Int) - 1) rfl (by rw [hD.1]; exact nI_m1L (by omega)) ⟨bI_B _, h⟩
theorem sR_isSheet {ρ : St} (a : Int32) {post : Int32 → St → Prop} (h : post (bI (wi a.toInt 0 3)) ρ) : wX12_isSheet a ρ post := sR_inI 0 3 rfl rfl ⟨bI_B _, h⟩
