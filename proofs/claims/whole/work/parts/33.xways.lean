/-! PURE: the class tries the ways -/
theorem wa_iv {W : Vw} (hv : Iv W) (hd : Dv W) {n : Nat} {f : Nat → Nat} (hf : ∀ k, k < n → f k < W 0 5) : Iv (wa W n f) := by
  obtain ⟨i1, i2, i3, i4, i5, i6, i7, i8⟩ := hv
  have w : ∀ x y, ¬ x = 19 → ¬ x = 16 → wa W n f x y = W x y := fun x y h1 h2 => wa_o (by omega)
  refine ⟨?_, ?_, ?_, ?_, ?_, ?_, ?_, ?_⟩
  · rw [w 0 0 (by omega) (by omega), w 0 1 (by omega) (by omega), w 0 2 (by omega) (by omega), w 0 3 (by omega) (by omega), w 0 4 (by omega) (by omega)]
    exact i1
  · intro s hs
    rw [w 0 0 (by omega) (by omega)] at hs
    rw [w 1 s (by omega) (by omega), w 2 s (by omega) (by omega)]
    exact i2 s hs
  · intro m hm
    rw [w 0 3 (by omega) (by omega)] at hm
    rw [w 0 0 (by omega) (by omega), w 3 m (by omega) (by omega), w 4 m (by omega) (by omega), w 5 m (by omega) (by omega), w 6 m (by omega) (by omega), w 7 m (by omega) (by omega), w 8 m (by omega) (by omega)]
    exact i3 m hm
  · intro k hk
    rw [w 0 4 (by omega) (by omega)] at hk
    obtain ⟨b1, b2, b3, b4, b5, b6, b7, b8, b9, b10, b11⟩ := i4 k hk
    rw [w 0 0 (by omega) (by omega), w 10 k (by omega) (by omega), w 11 k (by omega) (by omega), w 12 k (by omega) (by omega), w 13 k (by omega) (by omega), w 14 k (by omega) (by omega), w 15 k (by omega) (by omega)]
    by_cases z : k < n
    · rw [wa_16 z]
      have := hd.2.2.1 (f k) (hf k z)
      exact ⟨b1, b2, b3, b4, b5, b6, b7, b8, b9, this.1, this.2⟩
    · rw [wa_o (by omega)]
      exact ⟨b1, b2, b3, b4, b5, b6, b7, b8, b9, b10, b11⟩
  · intro j k hj hk
    rw [w 0 4 (by omega) (by omega)] at hj hk
    rw [w 12 j (by omega) (by omega), w 12 k (by omega) (by omega)]
    exact i5 j k hj hk
  · intro i hi
    rw [w 0 4 (by omega) (by omega)] at hi
    rw [w 0 4 (by omega) (by omega), w 17 i (by omega) (by omega)]
    exact i6 i hi
  · intro k hk
    rw [w 0 4 (by omega) (by omega)] at hk
    obtain ⟨i, hi, e⟩ := i7 k hk
    exact ⟨i, by rw [w 0 4 (by omega) (by omega)]; exact hi, by rw [w 17 i (by omega) (by omega)]; exact e⟩
  · intro i j hi hj e
    rw [w 0 4 (by omega) (by omega)] at hi hj
    rw [w 12 j (by omega) (by omega), w 17 i (by omega) (by omega), w 11 _ (by omega) (by omega)] at e
    obtain ⟨i', hi', e'⟩ := i8 i j hi hj e
    exact ⟨i', hi', by rw [w 17 i' (by omega) (by omega)]; exact e'⟩
/-- the class's best, as it stands -/
def bX (W : Vw) (o : Option Nat) (τ : St) : Prop := match o with
  | none => gI τ 0 9 = -1
  | some w => gI τ 0 9 = nI (wl W (fbn W) (fw (W 0 5) (fbn W) w)) ∧ gI τ 0 10 = nI (cgn W (fw (W 0 5) (fbn W) w) (fbn W)) ∧ ∀ k, k < fbn W → gI τ 18 k = nI (fw (W 0 5) (fbn W) w k)
/-- the class's store while it tries: f at the first j free belts -/
def tX (W : Vw) (σ : St) (j : Nat) (f : Nat → Nat) (o : Option Nat) (τ : St) : Prop := (∀ c k, ¬ scX c k → ¬ (k = 7 ∧ ∃ i, i < fbn W ∧ c = bO W i) → gI τ c k = gI σ c k) ∧ (∀ c k, gR τ c k = gR σ c k) ∧ (∀ i, i < j → gI τ (bO W i) 7 = nI (W 20 (f i)) ∧ gI τ 17 i = nI (f i)) ∧ bX W o τ
theorem sX_free {W : Vw} {ids : List Nat} {σ : St} (hv : Iv W) (hb : gI σ 1 3 = nI (W 0 4)) {post : Int32 → St → Prop} (h : post (nI (fbn W)) σ) : wX11_freeBelts ids σ post := by
  have hc := hv.c
  have e4 : (nI (W 0 4) < (4 : Int32)) ↔ W 0 4 < 4 := nI_ltI (b := 4) (by omega) (by omega)
  unfold wX11_freeBelts
  rw [hb]
  have e : (if nI (W 0 4) < (4 : Int32) then nI (W 0 4) else (4 : Int32)) = nI (fbn W) := by
    unfold fbn
    by_cases z : W 0 4 < 4
    · rw [if_pos (e4.mpr z), if_pos z]
    · rw [if_neg (fun q => z (e4.mp q)), if_neg z]
      rfl
  rw [e]
  exact h
theorem tX_mx {W : Vw} {ids : List Nat} {σ τ : St} (hv : Iv W) (hM : MX W ids σ) {f : Nat → Nat} {o : Option Nat} (h : tX W σ (fbn W) f o τ) : MX (wa W (fbn W) f) ids τ := by
  have hc := hv.c
  obtain ⟨n1, n2, n3⟩ := fbn_r W
  obtain ⟨t1, t2, t3, t4⟩ := h
  have w : ∀ x y, ¬ x = 19 → ¬ x = 16 → wa W (fbn W) f x y = W x y := fun x y h1 h2 => wa_o (by omega)
  have low : ∀ c k, c < 72 → ¬ scX c k → gI τ c k = gI σ c k := fun c k h1 h2 => t1 c k h2 (fun ⟨_, i, hi, e⟩ => by have := bO_r hv (k := i) (by omega); omega)
  refine ⟨?_, ?_, ?_, ?_, ?_⟩
  · rw [w 0 0 (by omega) (by omega), w 0 1 (by omega) (by omega), w 0 2 (by omega) (by omega), w 0 3 (by omega) (by omega), w 0 4 (by omega) (by omega), low _ _ (by omega) (by unfold scX; omega), low _ _ (by omega) (by unfold scX; omega), low _ _ (by omega) (by unfold scX; omega), low _ _ (by omega) (by unfold scX; omega), low _ _ (by omega) (by unfold scX; omega)]
    exact hM.1
  · intro s hs
    rw [w 0 0 (by omega) (by omega)] at hs
    rw [w 1 s (by omega) (by omega), w 2 s (by omega) (by omega), low _ _ (by omega) (by unfold scX; omega), low _ _ (by omega) (by unfold scX; omega)]
    exact hM.s hs
  · intro m hm
    rw [w 0 3 (by omega) (by omega)] at hm
    rw [w 3 m (by omega) (by omega), w 4 m (by omega) (by omega), w 5 m (by omega) (by omega), w 6 m (by omega) (by omega), w 7 m (by omega) (by omega), w 8 m (by omega) (by omega), low _ _ (by omega) (by unfold scX; omega), low _ _ (by omega) (by unfold scX; omega), low _ _ (by omega) (by unfold scX; omega), low _ _ (by omega) (by unfold scX; omega), low _ _ (by omega) (by unfold scX; omega), low _ _ (by omega) (by unfold scX; omega), t2]
    exact hM.m hm
  · intro k hk
    rw [w 0 4 (by omega) (by omega)] at hk
    have hr := bO_r hv hk
    obtain ⟨x1, x2, x3, x4, x5, x6, x7, x8, x9⟩ := hM.b hk
    have eb : bO (wa W (fbn W) f) k = bO W k := bO_cg (w 10 k (by omega) (by omega))
    have tb : ∀ j, ¬ j = 7 → gI τ (bO W k) j = gI σ (bO W k) j := fun j hj => t1 _ _ (by unfold scX; omega) (fun z => hj z.1)
    rw [eb, w 10 k (by omega) (by omega), w 11 k (by omega) (by omega), w 12 k (by omega) (by omega), w 13 k (by omega) (by omega), w 14 k (by omega) (by omega), w 15 k (by omega) (by omega), tb 0 (by omega), tb 1 (by omega), tb 2 (by omega), tb 3 (by omega), tb 6 (by omega), tb 8 (by omega), t2]
    by_cases z : k < fbn W
    · rw [wa_16 z, (t3 k z).1]
      exact ⟨x1, x2, x3, x4, x5, x6, x7, rfl, x9⟩
    · rw [wa_o (x := 16) (by omega), t1 _ 7 (by unfold scX; omega) (fun ⟨_, i, hi, e⟩ => by have := bO_i hv (k := i) hk (by omega) e; omega)]
      exact ⟨x1, x2, x3, x4, x5, x6, x7, x8, x9⟩
  · intro i hi
    rw [w 0 4 (by omega) (by omega)] at hi
    rw [w 17 i (by omega) (by omega), low _ _ (by omega) (by unfold scX; omega)]
    exact hM.o hi
theorem wl_le {W : Vw} (hv : Iv W) (n : Nat) (f : Nat → Nat) : wl W n f ≤ 10 := Nat.le_trans (ct_le _ _) hv.c.2.2.2.2.1
theorem cgn_le (W : Vw) (f : Nat → Nat) (n : Nat) : cgn W f n ≤ n := ct_le _ _
/-- one way weighed -/
theorem sX_weigh {W : Vw} {ids : List Nat} {σ τ : St} (hv : Iv W) (hd : Dv W) (hM : MX W ids σ) {f : Nat → Nat} {o : Option Nat} (hf : ∀ k, k < fbn W → f k < W 0 5) (hg : stO W) (hu : ∀ j, j < fbn W → usd W f j (f j) = false) (ht : tX W σ (fbn W) f o τ) {post : St → Prop} (h : ∀ υ, tX W σ (fbn W) f (fo W (pv (W 0 5) f (fbn W)) 1 o) υ → post υ) : wX11_weigh ids (nI (cgn W f (fbn W))) τ post := by
  have hc := hv.c
  obtain ⟨n1, n2, n3⟩ := fbn_r W
  have hva := wa_iv hv hd hf
  have hMa := tX_mx hv hM ht
  have e3 : wa W (fbn W) f 0 3 = W 0 3 := wa_o (by omega)
  obtain ⟨t1, t2, t3, t4⟩ := ht
  have efw : ∀ k, k < fbn W → fw (W 0 5) (fbn W) (pv (W 0 5) f (fbn W)) k = f k := fun k hk => by
    have := fw_pv (D := W 0 5) (n := fbn W) (j := fbn W) (f := f) (r := 0) (Nat.le_refl _) hf (by rw [Nat.sub_self]; exact Nat.one_pos) hk
    rw [Nat.sub_self, Nat.pow_zero, Nat.mul_one, Nat.add_zero] at this
    exact this
  have ewa : wa W (fbn W) (fw (W 0 5) (fbn W) (pv (W 0 5) f (fbn W))) = wa W (fbn W) f := wa_cg efw
  have ewl : wl W (fbn W) (fw (W 0 5) (fbn W) (pv (W 0 5) f (fbn W))) = wl W (fbn W) f := by unfold wl; rw [ewa]
  have ecg : cgn W (fw (W 0 5) (fbn W) (pv (W 0 5) f (fbn W))) (fbn W) = cgn W f (fbn W) := cgn_cg efw
  have egd : gd W (fbn W) (fw (W 0 5) (fbn W) (pv (W 0 5) f (fbn W))) = true := by
    have e : gd W (fbn W) (fw (W 0 5) (fbn W) (pv (W 0 5) f (fbn W))) = gd W (fbn W) f := by unfold gd; rw [ewa]
    rw [e]
    refine (gd_t (fun k hk => ?_)).mpr ((Gd_x hd).mpr ⟨hg, hu⟩)
    have := hd.2.2.2.1 k hk
    refine ⟨this.1, ?_⟩
    by_cases z : k < fbn W
    · rw [wa_19 z]; exact hf k z
    · rw [wa_o (by omega)]; exact this.2.1
  have efo : ∀ u, fo W (pv (W 0 5) f (fbn W)) 1 (some u) = if wl W (fbn W) (fw (W 0 5) (fbn W) u) < wl W (fbn W) f ∨ (wl W (fbn W) f = wl W (fbn W) (fw (W 0 5) (fbn W) u) ∧ cgn W f (fbn W) < cgn W (fw (W 0 5) (fbn W) u) (fbn W)) then some (pv (W 0 5) f (fbn W)) else some u := fun u => by
    show bst W (some u) (pv (W 0 5) f (fbn W) + 0) = _
    rw [Nat.add_zero]
    unfold bst
    rw [if_pos egd, ewl, ecg]
  have efn : fo W (pv (W 0 5) f (fbn W)) 1 none = some (pv (W 0 5) f (fbn W)) := by
    show bst W none (pv (W 0 5) f (fbn W) + 0) = _
    rw [Nat.add_zero]
    unfold bst
    rw [if_pos egd]
  refine sX_spin8 hva hMa (fun υ he hS => sX_wellRunning hva hS (sJ6_bitCount ?_))
  rw [e3, bc_bs (by omega)]
  show (gI υ 0 9 < nI (wl W (fbn W) f) → _) ∧ (¬ gI υ 0 9 < nI (wl W (fbn W) f) → ((¬ nI (wl W (fbn W) f) = gI υ 0 9 → _) ∧ (nI (wl W (fbn W) f) = gI υ 0 9 → _)))
  have hwl := wl_le hv (fbn W) f
  have hcg := cgn_le W f (fbn W)
  have keep : ∀ c k, ¬ scX c k → ¬ (k = 7 ∧ ∃ i, i < fbn W ∧ c = bO W i) → gI υ c k = gI σ c k := fun c k h1 h2 => (he.2 c k (fun z => h1 (Or.inl z))).trans (t1 c k h1 h2)
  have k3 : ∀ i, i < fbn W → gI υ (bO W i) 7 = nI (W 20 (f i)) ∧ gI υ 17 i = nI (f i) := fun i hi => by
    have := bO_r hv (k := i) (by omega)
    rw [he.2 _ _ (by omega), he.2 _ _ (by omega)]
    exact t3 i hi
  have kR : ∀ c k, gR υ c k = gR σ c k := fun c k => (he.1 c k).trans (t2 c k)
  have take : fo W (pv (W 0 5) f (fbn W)) 1 o = some (pv (W 0 5) f (fbn W)) → wX11_weigh_42 ids post (nI (cgn W f (fbn W))) (nI (wl W (fbn W) f)) υ := by
    rintro e σ1 rfl σ2 rfl
    refine ⟨⟨by decide, by decide, by decide, by decide, by decide⟩, ?_⟩
    rintro σ8 rfl
    refine h _ ⟨fun c k h1 h2 => ?_, kR, fun i hi => ?_, ?_⟩
    · rw [gI_rI, if_neg (fun z => h1 (by unfold scX; omega)), gI_o (fun z => h1 (by unfold scX; omega)), gI_o (fun z => h1 (by unfold scX; omega))]
      exact keep c k h1 h2
    · have := bO_r hv (k := i) (by omega)
      rw [gI_rI, if_neg (by omega), gI_o (by omega), gI_o (by omega), gI_rI, if_neg (by omega), gI_o (by omega), gI_o (by omega)]
      exact k3 i hi
    · rw [e]
      refine ⟨?_, ?_, fun k hk => ?_⟩
      · rw [gI_rI, if_neg (by omega), gI_o (by omega), gI_s, ewl]
      · rw [gI_rI, if_neg (by omega), gI_s, ecg]
      · rw [gI_rI, if_pos rfl, efw k hk]
        show (if (0 : Int32).toNatClampNeg ≤ k ∧ k < (0 : Int32).toNatClampNeg + (4 : Int32).toNatClampNeg then _ else _) = _
        have z0 : (0 : Int32).toNatClampNeg = 0 := by decide
        have z4 : (4 : Int32).toNatClampNeg = 4 := by decide
        rw [z0, z4, if_pos (by omega), Nat.sub_zero, Nat.zero_add, gI_o (by omega), gI_o (by omega)]
        exact (k3 k hk).2
  have skip : fo W (pv (W 0 5) f (fbn W)) 1 o = o → wX11_weigh_66 ids post υ := by
    intro e
    refine h υ ⟨keep, kR, k3, ?_⟩
    rw [e]
    unfold bX at t4 ⊢
    cases o with
    | none => rw [he.2 _ _ (by omega)]; exact t4
    | some u =>
      simp only at t4 ⊢
      rw [he.2 _ _ (by omega), he.2 _ _ (by omega)]
      refine ⟨t4.1, t4.2.1, fun k hk => ?_⟩
      rw [he.2 _ _ (by omega)]
      exact t4.2.2 k hk
  cases o with
  | none =>
    have e9 : gI υ 0 9 = -1 := (he.2 0 9 (by omega)).trans t4
    rw [e9]
    refine dt ?_ (take efn)
    rw [fb_lt, fb_nI (by omega)]
    have : (-1 : Int32).toInt = -1 := by decide
    omega
  | some u =>
    have hwu := wl_le hv (fbn W) (fw (W 0 5) (fbn W) u)
    have hcu := cgn_le W (fw (W 0 5) (fbn W) u) (fbn W)
    have e9 : gI υ 0 9 = nI (wl W (fbn W) (fw (W 0 5) (fbn W) u)) := (he.2 0 9 (by omega)).trans t4.1
    have e10 : gI υ 0 10 = nI (cgn W (fw (W 0 5) (fbn W) u) (fbn W)) := (he.2 0 10 (by omega)).trans t4.2.1
    rw [e9, e10, nI_ltI (by omega) (by omega), nI_eq (by omega) (by omega), nI_leI (by omega) (by omega)]
    refine ⟨fun c => take (by rw [efo, if_pos (Or.inl c)]), fun c => ⟨fun c2 => skip (by rw [efo, if_neg (by omega)]), fun c2 => ⟨fun c3 => skip (by rw [efo, if_neg (by omega)]), fun c3 => take (by rw [efo, if_pos (Or.inr ⟨c2, by omega⟩)])⟩⟩⟩
/-- the search below some drums -/
theorem sX_try {W : Vw} {ids : List Nat} {σ : St} (hv : Iv W) (hd : Dv W) (hM : MX W ids σ) (hD : DX W σ) (hg : stO W) : ∀ (t d j : Nat) (f : Nat → Nat) (o : Option Nat) (x : Int32) (τ : St) (post : St → Prop), t < d → j + t = fbn W → (∀ i, i < j → f i < W 0 5) → (∀ i, i < j → usd W f i (f i) = false) → (∀ b, b < 32 → bt x b = usd W f j b) → tX W σ j f o τ → (∀ υ, tX W σ j f (fo W (pv (W 0 5) f j * W 0 5 ^ t) (W 0 5 ^ t) o) υ → post υ) → wgT ids d 0 (nI j) x (nI (cgn W f j)) τ post := by
  have hc := hv.c
  have hdc := hd.1
  obtain ⟨n1, n2, n3⟩ := fbn_r W
  intro t
  induction t with
  | zero =>
    intro d j f o x τ post hdt hj hf hu hx ht h
    obtain ⟨d, rfl⟩ : ∃ q, d = q + 1 := ⟨d - 1, by omega⟩
    rw [wgT_0]
    have ej : j = fbn W := by omega
    subst ej
    have eb : gI τ 1 3 = nI (W 0 4) := by
      rw [ht.1 1 3 (by unfold scX; omega) (fun z => absurd z.1 (by omega))]
      exact hM.bs
    refine sX_free (ids := ids) hv eb ?_
    rw [nI_ltI (by omega) (by omega)]
    refine df (Nat.lt_irrefl _) (sX_weigh hv hd hM hf hg hu ht (fun υ hυ => h υ ?_))
    rw [Nat.pow_zero, Nat.mul_one]
    exact hυ
  | succ t ih =>
    intro d j f o x τ post hdt hj hf hu hx ht h
    obtain ⟨d, rfl⟩ : ∃ q, d = q + 1 := ⟨d - 1, by omega⟩
    rw [wgT_0]
    have eb : gI τ 1 3 = nI (W 0 4) := by
      rw [ht.1 1 3 (by unfold scX; omega) (fun z => absurd z.1 (by omega))]
      exact hM.bs
    refine sX_free (ids := ids) hv eb ?_
    rw [nI_ltI (by omega) (by omega)]
    have hjb : j < W 0 4 := by omega
    have hrj := bO_r hv hjb
    refine dt (by omega) ⟨vin (by omega) (by omega), bO W j, by rw [nI_clamp (by omega), ht.2.1]; exact (hM.b hjb).1, hM.okB hv hjb, ?_⟩
    refine lpc1 (wX11_tryDrums_28 (wgT ids d) ids post (nI j) x (nI (cgn W f j)) (bO W j)) (W 0 5) (by omega) (fun q υ => tX W σ j f (fo W (pv (W 0 5) f j * W 0 5 ^ (t + 1)) (q * W 0 5 ^ t) o) υ) ?_ ?_ τ (by rw [Nat.zero_mul]; exact ht)
    · rintro m υ hυ
      rw [wX11_tryDrums_28_s]
      have e2 : gI υ 1 2 = nI (W 0 5) := by
        rw [hυ.1 1 2 (by unfold scX; omega) (fun z => absurd z.1 (by omega))]
        exact hD.1
      refine dt (by rw [e2]; exact nI_le (Nat.le_refl _) (by omega)) (h υ ?_)
      rw [Nat.pow_succ, Nat.mul_comm (W 0 5 ^ t)]
      rw [Nat.pow_succ, Nat.mul_comm (W 0 5 ^ t)] at hυ
      exact hυ
    · rintro m q υ hq hυ kk
      rw [wX11_tryDrums_28_s]
      have e2 : gI υ 1 2 = nI (W 0 5) := by
        rw [hυ.1 1 2 (by unfold scX; omega) (fun z => absurd z.1 (by omega))]
        exact hD.1
      refine df (by rw [e2]; exact nI_ge hq (by omega)) ?_
      rw [bt_t0 x (i := q) (by omega), hx q (by omega)]
      have nxt : ∀ (υ' : St), tX W σ j f (fo W (pv (W 0 5) f j * W 0 5 ^ (t + 1) + q * W 0 5 ^ t) (W 0 5 ^ t) (fo W (pv (W 0 5) f j * W 0 5 ^ (t + 1)) (q * W 0 5 ^ t) o)) υ' → wX11_tryDrums_102 (wgT ids d) ids (wX11_tryDrums_28 (wgT ids d) ids post (nI j) x (nI (cgn W f j)) (bO W j) m) post (nI j) x (nI (cgn W f j)) (bO W j) (nI q) υ' := by
        rintro υ' hυ' v rfl
        rw [nI_1]
        refine kk υ' ?_
        have e : (q + 1) * W 0 5 ^ t = q * W 0 5 ^ t + W 0 5 ^ t := by rw [Nat.add_mul, Nat.one_mul]
        rw [e, fo_a]
        exact hυ'
      have epv : ∀ g : Nat → Nat, (∀ i, i < j → g i = f i) → g j = q → pv (W 0 5) g (j + 1) * W 0 5 ^ t = pv (W 0 5) f j * W 0 5 ^ (t + 1) + q * W 0 5 ^ t := by
        intro g hg1 hg2
        rw [pv_s, hg2, pv_cg hg1, Nat.add_mul, Nat.pow_succ, Nat.mul_assoc, Nat.mul_comm (W 0 5) (W 0 5 ^ t)]
      have g1 : ∀ i, i < j → (fun i => if i = j then q else f i) i = f i := fun i hi => if_neg (by omega)
      have g2 : (fun i => if i = j then q else f i) j = q := if_pos rfl
      have gl : ∀ i, i < j + 1 → (fun i => if i = j then q else f i) i < W 0 5 := by
        intro i hi
        by_cases e : i = j
        · subst e; rw [g2]; exact hq
        · rw [g1 i (by omega)]; exact hf i (by omega)
      have ug : ∀ i b, i ≤ j → usd W (fun i => if i = j then q else f i) i b = usd W f i b := by
        intro i b hi
        have : nn i (fun i => decide ((if i = j then q else f i) = b)) = nn i (fun i => decide (f i = b)) := by
          have key : ∀ m, m ≤ i → nn m (fun i => decide ((if i = j then q else f i) = b)) = nn m (fun i => decide (f i = b)) := by
            intro m
            induction m with
            | zero => intro _; rfl
            | succ m ih2 => intro hm; rw [nn_s, nn_s, ih2 (by omega), if_neg (by omega)]
          exact key i (Nat.le_refl _)
        unfold usd
        rw [this]
      by_cases us : usd W f j q = false
      · refine dn us ⟨vin (by omega) (by omega), ?_⟩
        rw [nI_clamp (by omega)]
        rintro s6 rfl
        refine ⟨vin (by omega) (by omega), ?_⟩
        rw [nI_clamp (by omega), gI_o (by omega), hυ.1 10 q (by unfold scX; omega) (fun z => by obtain ⟨_, i, hi, e⟩ := z; have := bO_r hv (k := i) (by omega); omega), hD.2.1 q hq]
        rintro s8 rfl
        rw [gI_o (by omega), gI_o (by omega), hυ.1 _ 5 (by unfold scX; omega) (fun z => absurd z.1 (by omega)), (hD.2.2.1 j hjb).2]
        have hdj := hd.2.2.2.1 j hjb
        rw [nI_eq (by omega) (by omega)]
        have go : ∀ cg, cg = cgn W (fun i => if i = j then q else f i) (j + 1) → wX11_tryDrums_99 (wgT ids d) ids (wX11_tryDrums_28 (wgT ids d) ids post (nI j) x (nI (cgn W f j)) (bO W j) m) post (nI j) x (nI (cgn W f j)) (bO W j) (nI q) (nI j + 1) (x ||| ((1 : Int32) <<< (nI q &&& 31))) (nI cg) (uI (uI υ 17 j (nI q)) (bO W j) 7 (nI (W 20 q))) := by
          rintro cg rfl
          show wgT ids d 0 (nI j + 1) _ _ _ _
          rw [nI_1]
          refine ih d (j + 1) (fun i => if i = j then q else f i) (fo W (pv (W 0 5) f j * W 0 5 ^ (t + 1)) (q * W 0 5 ^ t) o) _ _ _ (by omega) (by omega) gl (fun i hi => ?_) (fun b hb => ?_) ⟨fun c k h1 h2 => ?_, hυ.2.1, fun i hi => ?_, ?_⟩ (fun υ' hυ' => nxt υ' ?_)
          · rw [ug i _ (by omega)]
            by_cases e : i = j
            · subst e; rw [if_pos rfl]; exact us
            · rw [if_neg e]; exact hu i (by omega)
          · rw [bt_or, hx b hb, bt_one q (by omega) b hb]
            have e : usd W (fun i => if i = j then q else f i) (j + 1) b = (usd W (fun i => if i = j then q else f i) j b || decide (b = q)) := by
              unfold usd
              rw [nn_s, g2]
              have : decide (q = b) = decide (b = q) := decide_eq_decide.mpr ⟨fun z => z.symm, fun z => z.symm⟩
              rw [this]
              cases stn W (W 0 4) b <;> cases nn j (fun i => decide ((if i = j then q else f i) = b)) <;> cases decide (b = q) <;> rfl
            rw [e, ug j b (Nat.le_refl _)]
          · rw [gI_o (fun z => h2 ⟨z.2, j, by omega, z.1⟩), gI_o (fun z => h1 (by unfold scX; omega))]
            exact hυ.1 c k h1 h2
          · by_cases e : i = j
            · subst e
              rw [g2, gI_s, gI_o (by omega), gI_s]
              exact ⟨rfl, rfl⟩
            · have hri := bO_r hv (k := i) (by omega)
              have nb : ¬ bO W i = bO W j := fun z => e (bO_i hv (by omega) hjb z)
              rw [g1 i (by omega), gI_o (by omega), gI_o (by omega), gI_o (by omega), gI_o (by omega)]
              exact hυ.2.2.1 i (by omega)
          · have hb4 := hυ.2.2.2
            unfold bX at hb4 ⊢
            cases ho : fo W (pv (W 0 5) f j * W 0 5 ^ (t + 1)) (q * W 0 5 ^ t) o with
            | none =>
              rw [ho] at hb4
              rw [gI_o (by omega), gI_o (by omega)]
              exact hb4
            | some u =>
              rw [ho] at hb4
              simp only at hb4 ⊢
              rw [gI_o (by omega), gI_o (by omega), gI_o (by omega), gI_o (by omega)]
              refine ⟨hb4.1, hb4.2.1, fun k hk => ?_⟩
              rw [gI_o (by omega), gI_o (by omega)]
              exact hb4.2.2 k hk
          · rw [epv _ g1 g2] at hυ'
            refine ⟨hυ'.1, hυ'.2.1, fun i hi => ?_, hυ'.2.2.2⟩
            have := hυ'.2.2.1 i (by omega)
            rw [g1 i hi] at this
            exact this
        have ecg : cgn W (fun i => if i = j then q else f i) (j + 1) = cgn W f j + (if q = W 19 j then 0 else 1) := by
          have g3 : (if j = j then q else f j) = q := if_pos rfl
          rw [cgn_s, g3, cgn_cg g1]
        by_cases e : q = W 19 j
        · refine dn e (go _ ?_)
          rw [ecg, if_pos e]
          rfl
        · refine dm e ?_
          rw [nI_1 (cgn W f j)]
          refine go _ ?_
          rw [ecg, if_neg e]
      · refine dm us (nxt υ ?_)
        rw [fo_bad]
        · exact hυ
        · intro i hi
          have hw : ∀ k, k < j + 1 → fw (W 0 5) (fbn W) (pv (W 0 5) f j * W 0 5 ^ (t + 1) + q * W 0 5 ^ t + i) k = (fun i => if i = j then q else f i) k := by
            intro k hk
            have h1 := fw_pv (D := W 0 5) (n := fbn W) (j := j + 1) (f := fun i => if i = j then q else f i) (r := i) (by omega) gl (by rw [show fbn W - (j + 1) = t by omega]; exact hi) hk
            rw [show fbn W - (j + 1) = t by omega, epv _ g1 g2] at h1
            exact h1
          cases hgd : gd W (fbn W) (fw (W 0 5) (fbn W) (pv (W 0 5) f j * W 0 5 ^ (t + 1) + q * W 0 5 ^ t + i))
          · rfl
          · exfalso
            have hA : ∀ k, k < W 0 4 → W 18 k < W 0 5 ∧ wa W (fbn W) (fw (W 0 5) (fbn W) (pv (W 0 5) f j * W 0 5 ^ (t + 1) + q * W 0 5 ^ t + i)) 19 k < W 0 5 := by
              intro k hk
              have := hd.2.2.2.1 k hk
              refine ⟨this.1, ?_⟩
              by_cases z : k < fbn W
              · rw [wa_19 z]
                exact fw_lt (by omega) _ _ _
              · rw [wa_o (by omega)]
                exact this.2.1
            have q2 := ((Gd_x hd).mp ((gd_t hA).mp hgd)).2 j (by omega)
            refine us ?_
            have e : usd W (fw (W 0 5) (fbn W) (pv (W 0 5) f j * W 0 5 ^ (t + 1) + q * W 0 5 ^ t + i)) j q = usd W f j q := by
              have key : ∀ m, m ≤ j → nn m (fun i' => decide (fw (W 0 5) (fbn W) (pv (W 0 5) f j * W 0 5 ^ (t + 1) + q * W 0 5 ^ t + i) i' = q)) = nn m (fun i => decide (f i = q)) := by
                intro m
                induction m with
                | zero => intro _; rfl
                | succ m ih2 => intro hm; rw [nn_s, nn_s, ih2 (by omega), hw m (by omega), g1 m (by omega)]
              unfold usd
              rw [key j (Nat.le_refl _)]
            rw [← e]
            rw [hw j (by omega), g2] at q2
            exact q2
