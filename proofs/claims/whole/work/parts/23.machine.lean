/-! PURE: a new machine -/
theorem layX_M {d : Nat} (h1 : 60 ≤ d) (h2 : d < 72) : layX d = (0, 5) := by
  unfold layX
  rw [if_neg (by omega), if_neg (by omega), if_neg (by omega), if_pos h2]
theorem stX_hi {c : Nat} (h : 52 ≤ c) (k : Nat) : stX c k = none := by
  unfold stX
  rw [if_neg (by omega), if_neg (by omega), if_neg (by omega)]
theorem stX_lt {c k d : Nat} (h : stX c k = some d) : d < 52 ∧ ¬ d = 19 := by
  unfold stX at h
  split at h
  · split at h <;> (try split at h) <;> (try simp at h) <;> omega
  · split at h
    · split at h
      · split at h <;> (try simp at h) <;> omega
      · simp at h
    · split at h
      · split at h <;> (try simp at h) <;> omega
      · simp at h
/-- a cell that is not there yet is pointed to by none -/
theorem fr_new {W : Vw} {ids : List Nat} {σ : St} (h : Fr W ids σ) {d : Nat} (hd : 52 ≤ d) (hn : d ∉ ids) : ∀ c, c ∈ ids → ∀ k, xR stX σ c k ≠ some d := by
  intro c hc k e
  unfold xR at e
  split at e
  · rename_i d' hs
    have := stX_lt hs
    obtain rfl := Option.some.inj e
    omega
  · exact hn (h.2.2 c hc k d e)
theorem RW.up2 {W W' : Vw} {ids ids' : List Nat} {σ σ' ρ ρ' : St} (h : RW W ids σ ρ) (hv' : Iv W') (hd' : Dv W') (hX : RX W' ids' σ') (hR : RR W' ρ') (ht : W' 0 12 = W 0 12) (kX : ∀ c k, 20 ≤ c → c < 52 → gI σ' c k = gI σ c k) (kR : ∀ c k, (c = 1 ∨ c = 2 ∨ (31 ≤ c ∧ c ≤ 34)) → gI ρ' c k = gI ρ c k) : RW W' ids' σ' ρ' := by
  refine ⟨⟨hv', hd'⟩, hX, hR, fun t ht' => ?_, fun s hs => ?_⟩
  · rw [ht] at ht'
    have := h.dv.1
    exact (h.tx t ht').cg (fun k => kX _ _ (by omega) (by omega)) (fun k => kX _ _ (by omega) (by omega)) (fun k => kR _ _ (by omega)) (fun k => kR _ _ (by omega))
  · exact (h.sh s hs).cg (fun k => kX _ _ (by omega) (by omega)) (fun k => kX _ _ (by omega) (by omega)) (kR _ _ (by omega)) (kR _ _ (by omega)) (kR _ _ (by omega)) (fun k _ => kR _ _ (by omega))
def wmc (W : Vw) (s l f t g : Nat) : Vw := fun x y => if x = 0 ∧ y = 3 then W 0 3 + 1 else if y = W 0 3 ∧ 3 ≤ x ∧ x ≤ 8 then (if x = 3 then s else if x = 4 then l else if x = 5 then f else if x = 6 then t else if x = 7 then g else 1) else W x y
theorem wmc_o {W : Vw} {s l f t g x y : Nat} (h0 : ¬ (x = 0 ∧ y = 3)) (h1 : ¬ (y = W 0 3 ∧ 3 ≤ x ∧ x ≤ 8)) : wmc W s l f t g x y = W x y := by
  unfold wmc
  rw [if_neg h0, if_neg h1]
theorem wmc_n {W : Vw} {s l f t g x : Nat} (h : 3 ≤ x ∧ x ≤ 8) : wmc W s l f t g x (W 0 3) = (if x = 3 then s else if x = 4 then l else if x = 5 then f else if x = 6 then t else if x = 7 then g else 1) := by
  unfold wmc
  rw [if_neg (by omega), if_pos ⟨rfl, h⟩]
def mcX (σ : St) (M : Nat) (s l f t g : Int32) : St := uI (uR (uI (uI (uI (uI (uI (uI (nC σ (60 + M)) (60 + M) 5 1) (60 + M) 0 s) (60 + M) 1 f) (60 + M) 2 t) (60 + M) 3 l) (60 + M) 4 g) 9 M (some (60 + M))) 1 1 (nI M + 1)
theorem mcX_o {σ : St} {M : Nat} {s l f t g : Int32} {c j : Nat} (h0 : ¬ c = 60 + M) (h1 : ¬ (c = 1 ∧ j = 1)) : gI (mcX σ M s l f t g) c j = gI σ c j := by
  unfold mcX
  rw [gI_o (by omega), gI_uR, gI_o (by omega), gI_o (by omega), gI_o (by omega), gI_o (by omega), gI_o (by omega), gI_o (by omega), gI_nC, if_neg h0]
theorem mcX_n {σ : St} {M : Nat} {s l f t g : Int32} (j : Nat) : gI (mcX σ M s l f t g) (60 + M) j = if j = 0 then s else if j = 1 then f else if j = 2 then t else if j = 3 then l else if j = 4 then g else if j = 5 then 1 else 0 := by
  unfold mcX
  rw [gI_o (by omega), gI_uR]
  by_cases j4 : j = 4
  · subst j4; rw [gI_s]; rfl
  rw [gI_o (by omega)]
  by_cases j3 : j = 3
  · subst j3; rw [gI_s]; rfl
  rw [gI_o (by omega)]
  by_cases j2 : j = 2
  · subst j2; rw [gI_s]; rfl
  rw [gI_o (by omega)]
  by_cases j1 : j = 1
  · subst j1; rw [gI_s]; rfl
  rw [gI_o (by omega)]
  by_cases j0 : j = 0
  · subst j0; rw [gI_s]; rfl
  rw [gI_o (by omega)]
  by_cases j5 : j = 5
  · subst j5; rw [gI_s]; rfl
  rw [gI_o (by omega), gI_nC, if_pos rfl]
  simp [*]
theorem mcX_r {σ : St} {M : Nat} {s l f t g : Int32} (c j : Nat) : gR (mcX σ M s l f t g) c j = if c = 9 ∧ j = M then some (60 + M) else if c = 60 + M then none else gR σ c j := by
  unfold mcX
  rw [gR_uI, gR_uR, gR_uI, gR_uI, gR_uI, gR_uI, gR_uI, gR_uI, gR_nC]
def mcR (ρ : St) (M : Nat) (s l f t g : Int32) : St := uI (uI (uI (uI (uI (uI (uI ρ 6 M s) 7 M l) 8 M f) 9 M t) 10 M g) 11 M 1) 0 18 (nI M + 1)
theorem mcR_o {ρ : St} {M : Nat} {s l f t g : Int32} {c j : Nat} (h0 : ¬ (j = M ∧ 6 ≤ c ∧ c ≤ 11)) (h1 : ¬ (c = 0 ∧ j = 18)) : gI (mcR ρ M s l f t g) c j = gI ρ c j := by
  unfold mcR
  rw [gI_o (by omega), gI_o (by omega), gI_o (by omega), gI_o (by omega), gI_o (by omega), gI_o (by omega), gI_o (by omega)]
theorem mcR_n {ρ : St} {M : Nat} {s l f t g : Int32} {c : Nat} (hc : 6 ≤ c ∧ c ≤ 11) : gI (mcR ρ M s l f t g) c M = if c = 6 then s else if c = 7 then l else if c = 8 then f else if c = 9 then t else if c = 10 then g else 1 := by
  unfold mcR
  rw [gI_o (by omega)]
  have : c = 6 ∨ c = 7 ∨ c = 8 ∨ c = 9 ∨ c = 10 ∨ c = 11 := by omega
  rcases this with rfl | rfl | rfl | rfl | rfl | rfl
  · rw [gI_o (by omega), gI_o (by omega), gI_o (by omega), gI_o (by omega), gI_o (by omega), gI_s]; rfl
  · rw [gI_o (by omega), gI_o (by omega), gI_o (by omega), gI_o (by omega), gI_s]; rfl
  · rw [gI_o (by omega), gI_o (by omega), gI_o (by omega), gI_s]; rfl
  · rw [gI_o (by omega), gI_o (by omega), gI_s]; rfl
  · rw [gI_o (by omega), gI_s]; rfl
  · rw [gI_s]; rfl
theorem ne_m1 {n : Nat} (h : n < 2 ^ 31) : ¬ nI n = (-1 : Int32) := by
  intro e
  have := congrArg Int32.toInt e
  rw [fb_nI (by omega)] at this
  have h1 : (-1 : Int32).toInt = -1 := by decide
  omega
theorem IR.fr2 {W W' : Vw} {ρ τ : St} (h : IR W ρ) (hW : ∀ a b, ((a = 0 ∧ 6 ≤ b ∧ b ≤ 11) ∨ (21 ≤ a ∧ a ≤ 25)) → W' a b = W a b) (hI : ∀ c k, qI c k → gI τ c k = gI ρ c k) : IR W' τ := by
  have w : ∀ b, 6 ≤ b → b ≤ 11 → W' 0 b = W 0 b := fun b h1 h2 => hW 0 b (by omega)
  have g : ∀ a, (21 ≤ a ∧ a ≤ 25) → ∀ b, W' a b = W a b := fun a ha b => hW a b (by omega)
  have q : ∀ k, 61 ≤ k → k ≤ 66 → gI τ 0 k = gI ρ 0 k := fun k h1 h2 => hI 0 k (by unfold qI; omega)
  have q2 : ∀ c, 26 ≤ c → c ≤ 30 → ∀ k, gI τ c k = gI ρ c k := fun c h1 h2 k => hI c k (by unfold qI; omega)
  unfold IR
  rw [w 6 (by omega) (by omega), w 7 (by omega) (by omega), w 8 (by omega) (by omega), w 9 (by omega) (by omega), w 10 (by omega) (by omega), w 11 (by omega) (by omega), q 61 (by omega) (by omega), q 62 (by omega) (by omega), q 63 (by omega) (by omega), q 64 (by omega) (by omega), q 65 (by omega) (by omega), q 66 (by omega) (by omega)]
  simp only [g 21 (by omega), g 22 (by omega), g 23 (by omega), g 24 (by omega), g 25 (by omega), q2 26 (by omega) (by omega), q2 27 (by omega) (by omega), q2 28 (by omega) (by omega), q2 29 (by omega) (by omega), q2 30 (by omega) (by omega)]
  exact h
theorem machine_up {W : Vw} {ids : List Nat} {σ ρ : St} (h : RW W ids σ ρ) (hn : W 0 3 < 10) {s l f t g : Nat} (hs : s < W 0 0) (hl : l ≤ 999) (hf : f ≤ 9999) (ht : t ≤ 9999) (hg : g ≤ 24) : RW (wmc W s l f t g) (ids ++ [60 + W 0 3]) (mcX σ (W 0 3) (nI s) (nI l) (nI f) (nI t) (nI g)) (mcR ρ (W 0 3) (nI s) (nI l) (nI f) (nI t) (nI g)) := by
  have hv := h.iv
  have hc := hv.c
  obtain ⟨i1, i2, i3, i4, i5, i6, i7, i8⟩ := hv
  have hv := h.iv
  have hM := h.mx
  have hR := h.mr
  have w03 : wmc W s l f t g 0 3 = W 0 3 + 1 := rfl
  have w0 : ∀ y, ¬ y = 3 → wmc W s l f t g 0 y = W 0 y := fun y hy => wmc_o (by omega) (by omega)
  have wf : ∀ x, ¬ x = 0 → ¬ (3 ≤ x ∧ x ≤ 8) → ∀ y, wmc W s l f t g x y = W x y := fun x h1 h2 y => wmc_o (by omega) (by omega)
  have wm : ∀ x m, 3 ≤ x → m < W 0 3 → wmc W s l f t g x m = W x m := fun x m h1 h2 => wmc_o (by omega) (by omega)
  have nX : ∀ c j, ¬ c = 60 + W 0 3 → ¬ (c = 1 ∧ j = 1) → gI (mcX σ (W 0 3) (nI s) (nI l) (nI f) (nI t) (nI g)) c j = gI σ c j := fun c j h0 h1 => mcX_o h0 h1
  have nR : ∀ c j, ¬ (j = W 0 3 ∧ 6 ≤ c ∧ c ≤ 11) → ¬ (c = 0 ∧ j = 18) → gI (mcR ρ (W 0 3) (nI s) (nI l) (nI f) (nI t) (nI g)) c j = gI ρ c j := fun c j h0 h1 => mcR_o h0 h1
  have n18 : gI (mcR ρ (W 0 3) (nI s) (nI l) (nI f) (nI t) (nI g)) 0 18 = nI (W 0 3 + 1) := by
    unfold mcR; rw [gI_s, nI_1]
  have n11 : gI (mcX σ (W 0 3) (nI s) (nI l) (nI f) (nI t) (nI g)) 1 1 = nI (W 0 3 + 1) := by
    unfold mcX; rw [gI_s, nI_1]
  have rX : ∀ c j, ¬ c = 9 → ¬ c = 60 + W 0 3 → gR (mcX σ (W 0 3) (nI s) (nI l) (nI f) (nI t) (nI g)) c j = gR σ c j := fun c j h0 h1 => by rw [mcX_r, if_neg (by omega), if_neg h1]
  have hd := h.dv.1
  refine h.up2 ⟨?_, ?_, ?_, ?_, ?_, ?_, ?_, ?_⟩ ⟨?_, ?_, ?_, ?_, ?_, ?_, ?_, ?_⟩ ⟨⟨?_, ?_, ?_⟩, ⟨?_, ?_, ?_, ?_, ?_⟩, h.dx.fr hv ?_ ?_, ⟨?_, ?_, ?_⟩, h.ts.fr ?_ ?_⟩ ⟨⟨?_, ?_, ?_, ?_⟩, h.dr.fr ?_ ?_, h.ir.fr2 ?_ ?_, h.tq.fr ?_ ?_⟩ (w0 _ (by omega)) ?_ ?_
  -- Iv
  · rw [w0 0 (by omega), w0 1 (by omega), w0 2 (by omega), w03, w0 4 (by omega)]
    exact ⟨i1.1, i1.2.1, i1.2.2.1, i1.2.2.2.1, hn, i1.2.2.2.2.2⟩
  · intro s' hs'
    rw [w0 0 (by omega)] at hs'
    rw [wf 1 (by omega) (by omega), wf 2 (by omega) (by omega)]
    exact i2 s' hs'
  · intro m hm
    rw [w03] at hm
    rw [w0 0 (by omega)]
    by_cases e : m = W 0 3
    · subst e
      rw [wmc_n (by omega), wmc_n (by omega), wmc_n (by omega), wmc_n (by omega), wmc_n (by omega), wmc_n (by omega)]
      exact ⟨hs, Nat.le_trans hl (by decide), hf, ht, hg, Nat.le_refl 1⟩
    · rw [wm 3 m (by omega) (by omega), wm 4 m (by omega) (by omega), wm 5 m (by omega) (by omega), wm 6 m (by omega) (by omega), wm 7 m (by omega) (by omega), wm 8 m (by omega) (by omega)]
      exact i3 m (by omega)
  · intro k hk
    rw [w0 4 (by omega)] at hk
    rw [w0 0 (by omega), wf 10 (by omega) (by omega), wf 11 (by omega) (by omega), wf 12 (by omega) (by omega), wf 13 (by omega) (by omega), wf 14 (by omega) (by omega), wf 15 (by omega) (by omega), wf 16 (by omega) (by omega)]
    exact i4 k hk
  · intro j k hj hk
    rw [w0 4 (by omega)] at hj hk
    rw [wf 12 (by omega) (by omega), wf 12 (by omega) (by omega)]
    exact i5 j k hj hk
  · intro i hi
    rw [w0 4 (by omega)] at hi
    rw [w0 4 (by omega), wf 17 (by omega) (by omega)]
    exact i6 i hi
  · intro k hk
    rw [w0 4 (by omega)] at hk
    obtain ⟨i, hi, e⟩ := i7 k hk
    exact ⟨i, by rw [w0 4 (by omega)]; exact hi, by rw [wf 17 (by omega) (by omega)]; exact e⟩
  · intro i j hi hj e
    rw [w0 4 (by omega)] at hi hj
    rw [wf 12 (by omega) (by omega), wf 17 (by omega) (by omega), wf 11 (by omega) (by omega)] at e
    obtain ⟨i', hi', e'⟩ := i8 i j hi hj e
    exact ⟨i', hi', by rw [wf 17 (by omega) (by omega)]; exact e'⟩
  -- Dv
  · rw [w0 5 (by omega), w0 6 (by omega), w0 7 (by omega), w0 4 (by omega), w0 8 (by omega), w03, w0 12 (by omega), w0 13 (by omega), w0 14 (by omega)]
    exact ⟨hd.1, hd.2.1, hd.2.2.1, by omega, hd.2.2.2.2⟩
  · rw [w0 6 (by omega), w0 9 (by omega), w0 10 (by omega), w0 11 (by omega), w0 12 (by omega)]
    exact h.dv.2.1
  · intro d hd'
    rw [w0 5 (by omega)] at hd'
    rw [wf 20 (by omega) (by omega)]
    exact h.dv.2.2.1 d hd'
  · intro k hk
    rw [w0 4 (by omega)] at hk
    rw [w0 5 (by omega), wf 18 (by omega) (by omega), wf 19 (by omega) (by omega), wf 15 (by omega) (by omega), wf 16 (by omega) (by omega), wf 20 (by omega) (by omega), wf 20 (by omega) (by omega)]
    exact h.dv.2.2.2.1 k hk
  · intro m hm
    rw [w03] at hm
    by_cases e : m = W 0 3
    · subst e
      rw [wmc_n (by omega)]
      exact hl
    · rw [wm 4 m (by omega) (by omega)]
      exact h.dv.2.2.2.2.1 m (by omega)
  · intro k hk
    rw [w0 7 (by omega)] at hk
    rw [w0 5 (by omega), wf 21 (by omega) (by omega), wf 22 (by omega) (by omega), wf 23 (by omega) (by omega)]
    exact h.dv.2.2.2.2.2.1 k hk
  · intro m hm
    rw [w0 8 (by omega)] at hm
    rw [wf 24 (by omega) (by omega), wf 25 (by omega) (by omega)]
    exact h.dv.2.2.2.2.2.2.1 m hm
  · intro i hi
    rw [w0 14 (by omega)] at hi
    rw [wf 26 (by omega) (by omega)]
    exact h.dv.2.2.2.2.2.2.2 i hi
  -- Fr
  · intro c hc'
    exact List.mem_append.mpr (Or.inl (h.fr.1 c hc'))
  · intro c hc'
    rw [w03, w0 4 (by omega)]
    rcases List.mem_append.mp hc' with g1 | g1
    · rcases h.fr.2.1 c g1 with g2 | ⟨m, g2, g3⟩ | ⟨k, g2, g3⟩
      · exact Or.inl g2
      · exact Or.inr (Or.inl ⟨m, by omega, g3⟩)
      · exact Or.inr (Or.inr ⟨k, g2, by rw [g3, bO_cg (wf 10 (by omega) (by omega) k)]⟩)
    · exact Or.inr (Or.inl ⟨W 0 3, by omega, List.mem_singleton.mp g1⟩)
  · intro c hc' k d e
    rw [mcX_r] at e
    split at e
    · obtain rfl := Option.some.inj e
      exact List.mem_append.mpr (Or.inr (List.mem_singleton.mpr rfl))
    · split at e
      · exact absurd e (by simp)
      · rename_i g2
        rcases List.mem_append.mp hc' with g1 | g1
        · exact List.mem_append.mpr (Or.inl (h.fr.2.2 c g1 k d e))
        · exact absurd (List.mem_singleton.mp g1) g2
  -- MX
  · rw [w0 0 (by omega), w0 1 (by omega), w0 2 (by omega), w03, w0 4 (by omega), n11, nX _ _ (by omega) (by omega), nX _ _ (by omega) (by omega), nX _ _ (by omega) (by omega), nX _ _ (by omega) (by omega)]
    exact ⟨hM.1.1, rfl, hM.1.2.2⟩
  · intro s' hs'
    rw [w0 0 (by omega)] at hs'
    rw [wf 1 (by omega) (by omega), wf 2 (by omega) (by omega), nX _ _ (by omega) (by omega), nX _ _ (by omega) (by omega)]
    exact hM.s hs'
  · intro m hm
    rw [w03] at hm
    by_cases e : m = W 0 3
    · subst e
      rw [wmc_n (by omega), wmc_n (by omega), wmc_n (by omega), wmc_n (by omega), wmc_n (by omega), wmc_n (by omega), mcX_n, mcX_n, mcX_n, mcX_n, mcX_n, mcX_n, mcX_r, if_pos ⟨rfl, rfl⟩]
      exact ⟨rfl, List.mem_append.mpr (Or.inr (List.mem_singleton.mpr rfl)), rfl, rfl, rfl, rfl, rfl, rfl⟩
    · obtain ⟨h1, h2, h3⟩ := hM.m (m := m) (by omega)
      rw [wm 3 m (by omega) (by omega), wm 4 m (by omega) (by omega), wm 5 m (by omega) (by omega), wm 6 m (by omega) (by omega), wm 7 m (by omega) (by omega), wm 8 m (by omega) (by omega), nX _ _ (by omega) (by omega), nX _ _ (by omega) (by omega), nX _ _ (by omega) (by omega), nX _ _ (by omega) (by omega), nX _ _ (by omega) (by omega), nX _ _ (by omega) (by omega), mcX_r, if_neg (by omega), if_neg (by omega)]
      exact ⟨h1, List.mem_append.mpr (Or.inl h2), h3⟩
  · intro k hk
    rw [w0 4 (by omega)] at hk
    have hr := bO_r hv hk
    obtain ⟨h1, h2, h3⟩ := hM.b hk
    rw [bO_cg (wf 10 (by omega) (by omega) k), wf 10 (by omega) (by omega), wf 11 (by omega) (by omega), wf 12 (by omega) (by omega), wf 13 (by omega) (by omega), wf 14 (by omega) (by omega), wf 15 (by omega) (by omega), wf 16 (by omega) (by omega), nX _ _ (by omega) (by omega), nX _ _ (by omega) (by omega), nX _ _ (by omega) (by omega), nX _ _ (by omega) (by omega), nX _ _ (by omega) (by omega), nX _ _ (by omega) (by omega), nX _ _ (by omega) (by omega), rX _ _ (by omega) (by omega)]
    exact ⟨h1, List.mem_append.mpr (Or.inl h2), h3⟩
  · intro i hi
    rw [w0 4 (by omega)] at hi
    rw [nX _ _ (by omega) (by omega), wf 17 (by omega) (by omega)]
    exact hM.o hi
  -- DX
  · intro a b hc'; unfold cD at hc'; exact wmc_o (by omega) (by omega)
  · intro c k hk; unfold kD at hk; exact nX _ _ (by omega) (by omega)
  -- IX
  · rw [nX _ _ (by omega) (by omega), nX _ _ (by omega) (by omega), nX _ _ (by omega) (by omega), nX _ _ (by omega) (by omega), w0 6 (by omega), w0 9 (by omega), w0 10 (by omega), w0 11 (by omega)]
    exact h.ix.1
  · intro m hm
    rw [w03] at hm
    rw [w0 8 (by omega)]
    by_cases e : m = W 0 3
    · subst e
      rw [mcX_n, mcX_n, mcX_n, if_neg (by omega : ¬ W 0 3 < W 0 8)]
      exact ⟨rfl, fun z => absurd z (by omega)⟩
    · rw [nX _ _ (by omega) (by omega), nX _ _ (by omega) (by omega), nX _ _ (by omega) (by omega), wf 24 (by omega) (by omega), wf 25 (by omega) (by omega)]
      exact h.ix.2.1 m (by omega)
  · intro k hk
    rw [w0 4 (by omega)] at hk
    have hr := bO_r hv hk
    rw [w0 7 (by omega), bO_cg (wf 10 (by omega) (by omega) k), nX _ _ (by omega) (by omega), nX _ _ (by omega) (by omega), nX _ _ (by omega) (by omega), nX _ _ (by omega) (by omega), wf 21 (by omega) (by omega), wf 22 (by omega) (by omega), wf 23 (by omega) (by omega)]
    exact h.ix.2.2 k hk
  -- TS
  · intro a b hc'; unfold cT at hc'; exact wmc_o (by omega) (by omega)
  · intro c k hk; unfold kT at hk; exact nX _ _ (by omega) (by omega)
  -- MR
  · rw [w0 0 (by omega), w0 1 (by omega), w0 2 (by omega), w03, w0 4 (by omega), n18, nR _ _ (by omega) (by omega), nR _ _ (by omega) (by omega), nR _ _ (by omega) (by omega), nR _ _ (by omega) (by omega)]
    exact ⟨hR.1.1, rfl, hR.1.2.2⟩
  · intro s' hs'
    rw [w0 0 (by omega)] at hs'
    rw [wf 1 (by omega) (by omega), wf 2 (by omega) (by omega), nR _ _ (by omega) (by omega), nR _ _ (by omega) (by omega)]
    exact hR.s hs'
  · intro m hm
    rw [w03] at hm
    by_cases e : m = W 0 3
    · subst e
      rw [wmc_n (by omega), wmc_n (by omega), wmc_n (by omega), wmc_n (by omega), wmc_n (by omega), wmc_n (by omega), mcR_n (by omega), mcR_n (by omega), mcR_n (by omega), mcR_n (by omega), mcR_n (by omega), mcR_n (by omega), nR 0 34 (by omega) (by omega), h.dr.2.2.2.2]
      exact ⟨rfl, rfl, rfl, ⟨fun _ => rfl, fun z => absurd z (ne_m1 (by omega))⟩, rfl, rfl⟩
    · rw [wm 3 m (by omega) (by omega), wm 4 m (by omega) (by omega), wm 5 m (by omega) (by omega), wm 6 m (by omega) (by omega), wm 7 m (by omega) (by omega), wm 8 m (by omega) (by omega), nR 6 m (by omega) (by omega), nR 8 m (by omega) (by omega), nR 9 m (by omega) (by omega), nR 0 34 (by omega) (by omega), nR 0 35 (by omega) (by omega), nR 7 m (by omega) (by omega), nR 10 m (by omega) (by omega), nR 11 m (by omega) (by omega)]
      exact hR.m (by omega)
  · intro k hk
    rw [w0 4 (by omega)] at hk
    rw [wf 10 (by omega) (by omega), wf 11 (by omega) (by omega), wf 12 (by omega) (by omega), wf 13 (by omega) (by omega), wf 14 (by omega) (by omega), wf 15 (by omega) (by omega), wf 16 (by omega) (by omega), nR 13 k (by omega) (by omega), nR 14 k (by omega) (by omega), nR 15 k (by omega) (by omega), nR 18 k (by omega) (by omega), nR 19 k (by omega) (by omega), nR 0 29 (by omega) (by omega), nR 0 30 (by omega) (by omega), nR 16 k (by omega) (by omega), nR 17 k (by omega) (by omega)]
    have n12 : ∀ d, gI (mcR ρ (W 0 3) (nI s) (nI l) (nI f) (nI t) (nI g)) 12 d = gI ρ 12 d := fun d => nR _ _ (by omega) (by omega)
    simp only [n12]
    exact hR.b hk
  -- DR, IR, TQ
  · intro a b hc'; unfold cD at hc'; exact wmc_o (by omega) (by omega)
  · intro c k hk; unfold qD at hk; exact nR _ _ (by omega) (by omega)
  · intro a b hc'; exact wmc_o (by omega) (by omega)
  · intro c k hk; unfold qI at hk; exact nR _ _ (by omega) (by omega)
  · intro a b hc'; unfold cT at hc'; exact wmc_o (by omega) (by omega)
  · intro c k hk; unfold qT at hk; exact nR _ _ (by omega) (by omega)
  · intro c k h1 h2; exact nX _ _ (by omega) (by omega)
  · intro c k hk; exact nR _ _ (by omega) (by omega)
/-- quotient and rest, as the code writes them -/
theorem nI_qr {w d : Nat} (hw : w < 2 ^ 31) (hd : d < 2 ^ 31) : nI w / nI d = nI (w / d) ∧ nI w - nI w / nI d * nI d = nI (w % d) := by
  refine ⟨nI_div hw hd, ?_⟩
  rw [nI_div hw hd, nI_mul, nI_sub (Nat.div_mul_le_self w d)]
  congr 1
  have := Nat.div_add_mod w d
  rw [Nat.mul_comm] at this
  omega
theorem pc_machine {ids : List Nat} {σ ρ : St} (a1 : Int32) (a2 : Int32) (a3 : Int32) (a4 : Int32) (h : Rel ids σ ρ) : ∃ d0, wX11_machine ids d0 a1 a2 a3 a4 σ (fun r σ1 ids1 => wX12_machine a1 a2 a3 a4 ρ (fun r2 ρ1 => r = r2 ∧ Rel ids1 σ1 ρ1)) := by
  obtain ⟨-, W, h⟩ := h
  have hv := h.iv
  have hc := hv.c
  refine ⟨60 + W 0 3, ?_⟩
  have e4 : (10000 : Int32) = nI 10000 := rfl
  have rbad : ∀ P : Int32 → St → Prop, P (-2) ρ → (wi a1.toInt 0 ((W 0 0 : Int) - 1) = true → wi a2.toInt 0 999 = true → wi a3.toInt 0 99999999 = true → ¬ (a3 - a3 / (10000 : Int32) * (10000 : Int32)) < (a3 / (10000 : Int32)) → wi a4.toInt 0 24 = true → False) → wX12_machine a1 a2 a3 a4 ρ P := by
    intro P hP hno
    refine sR_isShaft hv h.mr a1 (bI_d (fun _ => hP) (fun b1 => ?_))
    refine sR_inI 0 999 rfl rfl (bI_d (fun _ => hP) (fun b2 => ?_))
    refine sR_inI 0 99999999 rfl rfl (bI_d (fun _ => hP) (fun b3 => ?_))
    refine ⟨fun _ => hP, fun b4 => ?_⟩
    exact sR_inI 0 24 rfl rfl (bI_e (fun _ => hP) (fun b5 => absurd (hno b1 b2 b3 b4 b5) id))
  have hrel := h.rel
  rintro v1 rfl v2 rfl
  refine ⟨fun c => rbad _ ⟨rfl, hrel⟩ (fun _ _ b3 _ _ => ?_), fun c => ?_⟩
  · have := of_decide_eq_true b3
    rw [fb_lt] at c
    have e0 : (0 : Int32).toInt = 0 := rfl
    omega
  refine ⟨fun c2 => rbad _ ⟨rfl, hrel⟩ (fun _ _ b3 _ _ => ?_), fun c2 => ?_⟩
  · obtain ⟨w, hw, rfl⟩ := wi_k (N := 99999999) b3
    have e9 : (9999 : Int32) = nI 9999 := rfl
    rw [e4, (nI_qr (by omega) (by omega)).1, e9, nI_ltI (by omega) (by omega)] at c2
    omega
  refine ⟨fun c3 => ?_, fun c3 => rbad _ ⟨rfl, hrel⟩ (fun _ _ b3 b4 _ => ?_)⟩
  rotate_left
  · obtain ⟨w, hw, rfl⟩ := wi_k (N := 99999999) b3
    rw [e4, (nI_qr (by omega) (by omega)).2, (nI_qr (by omega) (by omega)).1, nI_leI (by omega) (by omega)] at c3
    rw [e4, (nI_qr (by omega) (by omega)).2, (nI_qr (by omega) (by omega)).1, nI_ltI (by omega) (by omega)] at b4
    omega
  refine sX_isShaft hv h.mx a1 (bI_d (fun b1 => rbad _ ⟨rfl, hrel⟩ (fun z => by rw [b1] at z; exact absurd z (by decide))) (fun b1 => ?_))
  obtain ⟨s, hs, rfl⟩ := wi_n (by omega) b1
  refine sX_within 0 999 rfl rfl (bI_d (fun b2 => rbad _ ⟨rfl, hrel⟩ (fun _ z => by rw [b2] at z; exact absurd z (by decide))) (fun b2 => ?_))
  obtain ⟨l, hl, rfl⟩ := wi_k (N := 999) b2
  refine sX_within 0 24 rfl rfl (bI_e (fun b5 => rbad _ ⟨rfl, hrel⟩ (fun _ _ _ _ z => by rw [b5] at z; exact absurd z (by decide))) (fun b5 => ?_))
  obtain ⟨g, hg, rfl⟩ := wi_k (N := 24) b5
  have h3 : ∃ w, w < 100000000 ∧ a3 = nI w := by
    rw [fb_lt] at c
    have e0 : (0 : Int32).toInt = 0 := rfl
    have hlt := a3.toInt_lt
    obtain ⟨w, hw, rfl⟩ := fb_of (x := a3) (N := 2147483647) (by omega) (by omega)
    refine ⟨w, ?_, rfl⟩
    have e9 : (9999 : Int32) = nI 9999 := rfl
    rw [e4, (nI_qr (by omega) (by omega)).1, e9, nI_ltI (by omega) (by omega)] at c2
    omega
  obtain ⟨w, hw, rfl⟩ := h3
  have q1 := (nI_qr (w := w) (d := 10000) (by omega) (by omega)).1
  have q2 := (nI_qr (w := w) (d := 10000) (by omega) (by omega)).2
  rw [← e4] at q1 q2
  rw [q2, q1, nI_leI (by omega) (by omega)] at c3
  rw [q2, q1]
  have e10 : (nI (W 0 3) = (10 : Int32)) ↔ W 0 3 = 10 := nI_eq (b := 10) (by omega) (by omega)
  have rgo : ∀ P : Int32 → St → Prop, (W 0 3 = 10 → P (-4) ρ) → (¬ W 0 3 = 10 → P (nI (W 0 3)) (mcR ρ (W 0 3) (nI s) (nI l) (nI (w / 10000)) (nI (w % 10000)) (nI g))) → wX12_machine (nI s) (nI l) (nI w) (nI g) ρ P := by
    intro P p1 p2
    refine sR_isShaft hv h.mr _ ?_
    rw [b1]
    refine df (by decide) (sR_inI 0 999 rfl rfl ?_)
    rw [b2]
    refine df (by decide) (sR_inI 0 99999999 rfl rfl ?_)
    rw [wi_t (by omega) (by omega) (by omega)]
    refine df (by decide) ?_
    rw [q2, q1, nI_ltI (by omega) (by omega)]
    refine df (by omega) (sR_inI 0 24 rfl rfl ?_)
    rw [b5, h.mr.ms, e10]
    by_cases f : W 0 3 = 10
    · exact dm (by decide) (dn f (p1 f))
    · refine dm (by decide) (dm f ⟨vin (by omega) (by omega), ?_⟩)
      rw [nI_clamp (by omega)]
      rintro σ1 rfl
      rw [gI_o (by omega), h.mr.ms, nI_clamp (by omega)]
      refine ⟨vin (by omega) (by omega), ?_⟩
      rintro σ2 rfl
      rw [gI_o (by omega), gI_o (by omega), h.mr.ms, nI_clamp (by omega)]
      refine ⟨vin (by omega) (by omega), ?_⟩
      rintro σ3 rfl
      rw [gI_o (by omega), gI_o (by omega), gI_o (by omega), h.mr.ms, nI_clamp (by omega)]
      refine ⟨vin (by omega) (by omega), ?_⟩
      rintro σ4 rfl
      rw [gI_o (by omega), gI_o (by omega), gI_o (by omega), gI_o (by omega), h.mr.ms, nI_clamp (by omega)]
      refine ⟨vin (by omega) (by omega), ?_⟩
      rintro σ5 rfl
      rw [gI_o (by omega), gI_o (by omega), gI_o (by omega), gI_o (by omega), gI_o (by omega), h.mr.ms, nI_clamp (by omega)]
      refine ⟨vin (by omega) (by omega), ?_⟩
      rintro σ6 rfl
      rw [gI_o (by omega), gI_o (by omega), gI_o (by omega), gI_o (by omega), gI_o (by omega), gI_o (by omega), h.mr.ms]
      rintro σ7 rfl
      rw [gI_s, nI_1, nI_pred, ← nI_1]
      exact p2 f
  rw [h.mx.ms, e10]
  by_cases f : W 0 3 = 10
  · exact dn f (rgo _ (fun _ => ⟨rfl, hrel⟩) (fun z => absurd f z))
  · refine dm f ?_
    have hn : 60 + W 0 3 ∉ ids := by
      intro z
      rcases h.fr.2.1 _ z with g1 | ⟨m, g1, g2⟩ | ⟨k, g1, g2⟩
      · omega
      · omega
      · have := bO_r hv g1
        omega
    refine ⟨⟨layX_M (by omega) (by omega), stX_hi (by omega), hn, fr_new h.fr (by omega) hn, List.mem_append.mpr (Or.inr (List.mem_singleton.mpr rfl)), by omega, by omega⟩, ?_⟩
    rintro σ17 rfl ids' rfl σ1 rfl σ2 rfl σ3 rfl σ4 rfl σ5 rfl σ6 rfl
    have em : gI (uI (uI (uI (uI (uI (uI (nC σ (60 + W 0 3)) (60 + W 0 3) 5 1) (60 + W 0 3) 0 (nI s)) (60 + W 0 3) 1 (nI (w / 10000))) (60 + W 0 3) 2 (nI (w % 10000))) (60 + W 0 3) 3 (nI l)) (60 + W 0 3) 4 (nI g)) 1 1 = nI (W 0 3) := by
      rw [gI_o (by omega), gI_o (by omega), gI_o (by omega), gI_o (by omega), gI_o (by omega), gI_o (by omega), gI_nC, if_neg (by omega)]
      exact h.mx.ms
    unfold wX6_addMachine
    rw [em, nI_clamp (by omega)]
    refine ⟨vin (by omega) (by omega), ?_⟩
    rintro σ7 rfl
    rw [gI_uR, em]
    rintro σ8 rfl
    exact rgo _ (fun z => absurd z f) (fun _ => ⟨rfl, (machine_up h (by omega) hs hl (by omega) (by omega) hg).rel⟩)
