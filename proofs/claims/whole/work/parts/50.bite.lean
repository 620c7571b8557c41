/-! PURE: bite -/
theorem dv_ld {W W' : Vw} (h : ∀ x y, ¬ x = 4 → W' x y = W x y) (n s : Nat) : dv W' n s = dv W n s := by
  induction n with
  | zero => rfl
  | succ n ih =>
    unfold dv
    rw [h 12 n (by omega), h 14 n (by omega), ih]
theorem tu_ld {W W' : Vw} (h : ∀ x y, ¬ x = 4 → W' x y = W x y) : ∀ n s, tu W' n s = tu W n s := by
  intro n
  induction n with
  | zero => intro s; rfl
  | succ n ih =>
    intro s
    unfold tu
    rw [h 0 1 (by omega), h 0 4 (by omega), dv_ld h]
    by_cases c : s = 0
    · rw [if_pos c, if_pos c]
    · rw [if_neg c, if_neg c]
      cases dv W (W 0 4) s with
      | none => rfl
      | some k =>
        simp only
        have ea : av W' k = av W k := by unfold av; rw [h 15 k (by omega), h 10 k (by omega)]
        have ew : wy W' k = wy W k := by unfold wy; rw [h 10 k (by omega)]
        rw [h 11 k (by omega), h 16 k (by omega), ih, ea, ew]
theorem T_ld {W W' : Vw} (h : ∀ x y, ¬ x = 4 → W' x y = W x y) (s : Nat) : T W' s = T W s := tu_ld h 8 s
theorem rT_ld {W W' : Vw} (h : ∀ x y, ¬ x = 4 → W' x y = W x y) (s : Nat) : rT W' s = rT W s := by
  unfold rT rA rB gT
  rw [T_ld h]
theorem Iv.load {W : Vw} (h : Iv W) (m : Nat) {v : Nat} (hv : v ≤ 10998) : Iv (wu W 4 m v) := by
  have w : ∀ x y, ¬ x = 4 → wu W 4 m v x y = W x y := fun x y hx => wu_f hx y
  obtain ⟨h1, h2, h3, h4, h5, h6, h7, h8⟩ := h
  refine ⟨h1, h2, fun i hi => ?_, h4, h5, h6, h7, h8⟩
  obtain ⟨a, b, c⟩ := h3 i hi
  refine ⟨a, ?_, c⟩
  by_cases e : i = m
  · rw [e, wu_s]; exact hv
  · rw [wu_o (by omega)]; exact b
theorem MR.bite {W : Vw} {ρ : St} (h : MR W ρ) (h34 : gI ρ 0 34 = -1) {m : Nat} (hm : m < W 0 3) (h10 : W 0 3 ≤ 10) (v : Nat) : MR (wu W 4 m (W 4 m + v)) (uI (uI ρ 0 34 (nI m)) 0 35 (nI v)) := by
  have g : ∀ c j, ¬ (c = 0 ∧ (j = 34 ∨ j = 35)) → gI (uI (uI ρ 0 34 (nI m)) 0 35 (nI v)) c j = gI ρ c j := fun c j hn => by rw [gI_o (by omega), gI_o (by omega)]
  have g34 : gI (uI (uI ρ 0 34 (nI m)) 0 35 (nI v)) 0 34 = nI m := by rw [gI_o (by omega), gI_s]
  have g35 : gI (uI (uI ρ 0 34 (nI m)) 0 35 (nI v)) 0 35 = nI v := gI_s
  refine ⟨?_, fun i hi => ?_, fun j hj => ?_, fun k hk => ?_⟩
  · rw [g 0 9 (by omega), g 0 18 (by omega), g 0 28 (by omega), g 0 10 (by omega), g 0 11 (by omega)]
    exact h.1
  · rw [g _ _ (by omega), g _ _ (by omega)]
    exact h.s hi
  · have hj' : j < W 0 3 := hj
    obtain ⟨a1, a2, a3, ⟨a4, a4'⟩, a5, a6⟩ := h.m hj'
    rw [g 6 j (by omega), g 8 j (by omega), g 9 j (by omega), g 7 j (by omega), g 10 j (by omega), g 11 j (by omega), g34, g35]
    have a7 := a4 (by rw [h34]; exact ne_m1 (by omega))
    refine ⟨a1, a2, a3, ⟨fun hne => ?_, fun he => ?_⟩, a5, a6⟩
    · have nk : ¬ j = m := fun z => hne (by rw [z])
      rw [wu_o (by omega)]
      exact a7
    · have : j = m := nI_inj (by omega) (by omega) he
      subst this
      rw [wu_s, a7, nI_add]
  · rw [g 13 k (by omega), g 14 k (by omega), g 15 k (by omega), g 18 k (by omega), g 19 k (by omega), g 16 k (by omega), g 17 k (by omega), g 0 29 (by omega), g 0 30 (by omega)]
    have g12 : ∀ d, gI (uI (uI ρ 0 34 (nI m)) 0 35 (nI v)) 12 d = gI ρ 12 d := fun d => g 12 d (by omega)
    simp only [g12]
    exact h.b hk
theorem MR.c35 {W : Vw} {ρ : St} (h : MR W ρ) (h34 : gI ρ 0 34 = -1) (h10 : W 0 3 ≤ 10) (v : Int32) : MR W (uI ρ 0 35 v) := by
  have g : ∀ c j, ¬ (c = 0 ∧ j = 35) → gI (uI ρ 0 35 v) c j = gI ρ c j := fun c j hn => gI_o hn
  refine ⟨?_, fun i hi => ?_, fun j hj => ?_, fun k hk => ?_⟩
  · rw [g 0 9 (by omega), g 0 18 (by omega), g 0 28 (by omega), g 0 10 (by omega), g 0 11 (by omega)]
    exact h.1
  · rw [g _ _ (by omega), g _ _ (by omega)]
    exact h.s hi
  · obtain ⟨a1, a2, a3, ⟨a4, a4'⟩, a5, a6⟩ := h.m hj
    rw [g 6 j (by omega), g 8 j (by omega), g 9 j (by omega), g 7 j (by omega), g 10 j (by omega), g 11 j (by omega), g 0 34 (by omega)]
    refine ⟨a1, a2, a3, ⟨a4, fun he => ?_⟩, a5, a6⟩
    rw [h34] at he
    exact absurd he (ne_m1 (by omega))
  · rw [g 13 k (by omega), g 14 k (by omega), g 15 k (by omega), g 18 k (by omega), g 19 k (by omega), g 16 k (by omega), g 17 k (by omega), g 0 29 (by omega), g 0 30 (by omega)]
    have g12 : ∀ d, gI (uI ρ 0 35 v) 12 d = gI ρ 12 d := fun d => g 12 d (by omega)
    simp only [g12]
    exact h.b hk
theorem RW.c35 {W : Vw} {ids : List Nat} {σ ρ : St} (h : RW W ids σ ρ) (v : Int32) : RW W ids σ (uI ρ 0 35 v) := by
  have hc := h.iv.c
  obtain ⟨h1, h2, ⟨m, d, i, q⟩, h4, h5⟩ := h
  refine ⟨h1, h2, ⟨m.c35 d.2.2.2.2 (by omega) v, d.fr (fun _ _ _ => rfl) (fun c k hk => ?_), i.fr (fun _ _ _ => rfl) (fun c k hk => ?_), q.fr (fun _ _ _ => rfl) (fun c k hk => ?_)⟩, fun t ht => ?_, fun s hs => ?_⟩
  · unfold qD at hk; exact gI_o (by omega)
  · unfold qI at hk; exact gI_o (by omega)
  · unfold qT at hk; exact gI_o (by omega)
  · exact (h4 t ht).cg (fun _ => rfl) (fun _ => rfl) (fun k => gI_o (by omega)) (fun k => gI_o (by omega))
  · exact (h5 s hs).cg (fun _ => rfl) (fun _ => rfl) (gI_o (by omega)) (gI_o (by omega)) (gI_o (by omega)) (fun k _ => gI_o (by omega))
/-- how far a machine's turns fall when l is loaded -/
def fl (W : Vw) (l i : Nat) : Int32 := ((lN (l - W 0 2) * lN (cu W (W 3 i))) / lN l).toInt32
def mdN (W : Vw) (l i : Nat) : Nat → Int32 := nm6 0 (nI (cu W (W 3 i))) (fl W l i) (nI (W 4 i)) 0 (nI (W 7 i))
def mdv (W : Vw) (L1 : List Int32) (l i : Nat) : Int32 := val (mdN W l i) L1
def mdq (W : Vw) (L1 : List Int32) (l i : Nat) : Bool := mA W i && mT W i && !decide (mdv W L1 l i = 0)
theorem sX_minds {W : Vw} {ids : List Nat} {σ : St} (hv : Iv W) (hS : SX W ids σ) {i : Nat} (hi : i < W 0 3) {t l : Nat} {L0 L1 L2 : List Int32} (hg : TG t L0 L1 L2 ids σ) {post : Int32 → St → Prop} (h : ∀ τ, EqS σ τ → post (bI (!decide (mdv W L1 l i = 0))) τ) : wX11_minds ids (60 + i) (fl W l i) σ post := by
  have hm := hv.m hi
  have hc := hv.c
  have z0 : (0 : Int32).toNatClampNeg = 0 := by decide
  have z1 : (1 : Int32).toNatClampNeg = 1 := by decide
  have z2 : (2 : Int32).toNatClampNeg = 2 := by decide
  have z3 : (3 : Int32).toNatClampNeg = 3 := by decide
  have z4 : (4 : Int32).toNatClampNeg = 4 := by decide
  have z5 : (5 : Int32).toNatClampNeg = 5 := by decide
  unfold wX11_minds
  refine ⟨vin (i := 0) (by omega) (by omega), ?_⟩
  intro s1 e1
  obtain ⟨E1, n1, o1⟩ := nmw z0 e1
  have S1 := hS.eq hv E1
  rw [(S1.1.m hi).2.2.1]
  refine sX_cutTurns hv S1 hm.1 ⟨vin (i := 1) (by omega) (by omega), ?_⟩
  intro s2 e2
  obtain ⟨E2, n2, o2⟩ := nmw z1 e2
  refine ⟨vin (i := 2) (by omega) (by omega), ?_⟩
  intro s3 e3
  obtain ⟨E3, n3, o3⟩ := nmw z2 e3
  have S3 := (S1.eq hv E2).eq hv E3
  refine ⟨vin (i := 3) (by omega) (by omega), ?_⟩
  intro s4 e4
  obtain ⟨E4, n4, o4⟩ := nmw z3 e4
  refine ⟨vin (i := 4) (by omega) (by omega), ?_⟩
  intro s5 e5
  obtain ⟨E5, n5, o5⟩ := nmw z4 e5
  have S5 := (S3.eq hv E4).eq hv E5
  refine ⟨vin (i := 5) (by omega) (by omega), ?_⟩
  intro s6 e6
  obtain ⟨E6, n6, o6⟩ := nmw z5 e6
  have E : EqS σ s6 := ((((E1.tr E2).tr E3).tr E4).tr E5).tr E6
  refine sX_tell (k := 1) (hg.x E.1) (by decide) (nm := mdN W l i) (nm6_ok ?_ ?_ ?_ ?_ ?_ ?_) (fun τ Et => ?_)
  · rw [o6 0 (by omega), o5 0 (by omega), o4 0 (by omega), o3 0 (by omega), o2 0 (by omega), n1]
  · rw [o6 1 (by omega), o5 1 (by omega), o4 1 (by omega), o3 1 (by omega), n2]
  · rw [o6 2 (by omega), o5 2 (by omega), o4 2 (by omega), n3]
  · rw [o6 3 (by omega), o5 3 (by omega), n4]
    exact (S3.1.m hi).2.2.2.2.2.1
  · rw [o6 4 (by omega), n5]
  · rw [n6]
    exact (S5.1.m hi).2.2.2.2.2.2.1
  · have h' := h τ (E.tr Et)
    show (mdv W L1 l i = 0 → _) ∧ (¬ mdv W L1 l i = 0 → _)
    refine ⟨fun z => ⟨isB_0, ?_⟩, fun z => ⟨isB_1, ?_⟩⟩
    · rw [decide_eq_true z] at h'; exact h'
    · rw [decide_eq_false z] at h'; exact h'
theorem sX_minding {W : Vw} {ids : List Nat} {σ : St} (hv : Iv W) (hS : SX W ids σ) {t l : Nat} (hl : l < 2 ^ 31) {L0 L1 L2 : List Int32} (hg : TG t L0 L1 L2 ids σ) {post : Int32 → St → Prop} (h : ∀ τ, EqS σ τ → post (if W 0 2 < l then bs (W 0 3) (mdq W L1 l) else 0) τ) : wX11_minding ids (nI l) σ post := by
  have hc := hv.c
  unfold wX11_minding
  have e1 : gI σ 1 15 < nI l ↔ W 0 2 < l := by
    rw [hS.1.pw]
    exact nI_ltI (by omega) (by omega)
  rw [e1]
  refine ⟨fun g => ?_, fun g => ?_⟩
  rotate_left
  · have h' := h σ (EqS.rf σ)
    rw [if_neg g] at h'
    exact h'
  rw [if_pos g] at h
  refine sX_switchedOn hv hS.1 (sX_turning hv hS ?_)
  rintro _ rfl
  rw [bs_and (by omega), hS.1.pw, nI_sub (by omega), nI_l (by omega)]
  rintro _ rfl
  refine lpc2 (wX11_minding_46 ids post (nI l) (bs (W 0 3) (fun i => mA W i && mT W i)) (lN (l - W 0 2))) (W 0 3) (by omega) (fun i v τ => EqS σ τ ∧ v = bs i (mdq W L1 l)) ?_ ?_ 0 σ ⟨EqS.rf σ, rfl⟩
  · rintro N v τ ⟨e, rfl⟩
    rw [wX11_minding_46_s]
    exact dt (by rw [(hS.eq hv e).1.ms]; exact nI_le (Nat.le_refl _) (by omega)) (h τ e)
  · rintro N i v τ hi ⟨e, rfl⟩ kk
    have S := hS.eq hv e
    have hm := hv.m hi
    obtain ⟨m1, -, m3, m4, m5, m6, m7, m8⟩ := S.1.m hi
    rw [wX11_minding_46_s]
    refine df (by rw [S.1.ms]; exact nI_ge hi (by omega)) ⟨vin (by omega) (by omega), 60 + i, by rw [nI_clamp (by omega)]; exact m1, S.1.okM hv hi, ?_⟩
    rw [m3]
    refine sX_cutTurns hv S hm.1 ?_
    have hcu := cu_le W (W 3 i)
    rw [nI_l (by omega), nI_l (by omega)]
    refine ⟨lN_n0 (by omega) (by omega), ?_⟩
    rintro _ rfl
    rw [bt_t _ (i := i) (by omega), bt_bs _ (by omega) _ _ (by omega)]
    simp only [hi, decide_true, Bool.true_and]
    have keep : ∀ υ, EqS σ υ → mdq W L1 l i = false → wX11_minding_121 ids (wX11_minding_46 ids post (nI l) (bs (W 0 3) (fun i => mA W i && mT W i)) (lN (l - W 0 2)) N) post (nI l) (bs (W 0 3) (fun i => mA W i && mT W i)) (lN (l - W 0 2)) (bs i (mdq W L1 l)) (nI i) υ := by
      rintro υ E z _ rfl
      rw [nI_1]
      exact kk _ _ ⟨E, bs_f (by rw [z]; exact Bool.noConfusion)⟩
    refine ⟨fun c => keep τ e ?_, fun c => ?_⟩
    · unfold mdq
      have : (mA W i && mT W i) = false := by
        cases hb : (mA W i && mT W i) with
        | false => rfl
        | true => exact absurd hb c
      rw [this]
      rfl
    · refine sX_minds hv S hi (l := l) (hg.x e.1) (fun υ e2 => ?_)
      have E := e.tr e2
      have eq : mdq W L1 l i = !decide (mdv W L1 l i = 0) := by unfold mdq; rw [c, Bool.true_and]
      rw [← eq]
      refine bI_d (fun z => keep υ E z) (fun z => ?_)
      rintro _ rfl _ rfl
      rw [nI_1]
      exact kk _ _ ⟨E, bs_t z⟩
theorem sR_bite66 {W : Vw} {ρ : St} (hv : Iv W) (hS : SR W ρ) {b : By} {nn t l : Nat} {L0 L1 L2 : List Int32} (hg : TH b nn t L0 L1 L2 ρ) (h34 : gI ρ 0 34 = -1) (hl : l < 2 ^ 31) (hp : W 0 2 < l) {m : Nat} (hm : m < W 0 3) {post : Int32 → St → Prop} (h : ∀ τ, RG ρ τ → post (bs (W 0 3) (fun i => mdq W L1 l i && !decide (i = m))) τ) : ∃ N, wX12_bite_66 post (nI m) (lN l) N 0 0 ρ := by
  have hc := hv.c
  refine lpc2 (wX12_bite_66 post (nI m) (lN l)) (W 0 3) (by omega) (fun i v τ => RG ρ τ ∧ v = bs i (fun i => mdq W L1 l i && !decide (i = m))) ?_ ?_ 0 ρ ⟨RG.rf ρ, rfl⟩
  · rintro N v τ ⟨e, rfl⟩
    rw [wX12_bite_66_s]
    exact dt (by rw [(hS.g e).1.ms]; exact nI_le (Nat.le_refl _) (by omega)) (h τ e)
  · rintro N i v τ hi ⟨e, rfl⟩ kk
    have S := hS.g e
    have hmi := hv.m hi
    obtain ⟨a1, a2, a3, ⟨a4, -⟩, a5, a6⟩ := S.1.m hi
    have a7 := a4 (by rw [e.1 _ _ (by omega), h34]; exact ne_m1 (by omega))
    rw [wX12_bite_66_s]
    have keep : ∀ υ, RG ρ υ → (mdq W L1 l i && !decide (i = m)) = false → wX12_bite_182 (wX12_bite_66 post (nI m) (lN l) N) post (nI m) (lN l) (bs i (fun i => mdq W L1 l i && !decide (i = m))) (nI i) υ := by
      rintro υ E z _ rfl
      rw [nI_1]
      exact kk _ _ ⟨E, bs_f (by rw [z]; exact Bool.noConfusion)⟩
    refine df (by rw [S.1.ms]; exact nI_ge hi (by omega)) ⟨vin (by omega) (by omega), ?_⟩
    rw [nI_clamp (by omega), a1, a6]
    rintro _ rfl
    have ei : nI i = nI m ↔ i = m := nI_eq (by omega) (by omega)
    rw [ei, one_or hmi.2.2.2.2.2]
    refine ⟨fun c => keep τ e (by simp [c]), fun c => ⟨fun c2 => keep τ e (by unfold mdq mA; simp [c2]), fun c2 => ⟨vin (by omega) (by omega), ?_⟩⟩⟩
    have on : W 8 i = 1 := by
      by_cases z : W 8 i = 1
      · exact z
      · exact absurd z c2
    have hcu := cu_le W (W 3 i)
    rw [nI_clamp (by omega), sR_ways hv S (by omega)]
    refine ⟨fun c3 => ?_, fun c3 => keep τ e (by unfold mdq mT; simp [c3])⟩
    refine sR_cutTurns hv S (by omega) ⟨lN_n0 (by omega) (by omega), ?_⟩
    rw [S.1.pw, nI_l (by omega), nI_l (by omega), lN_sub (by omega)]
    rintro _ rfl
    refine sR_cutTurns hv S (by omega) ?_
    rw [a5, a7]
    refine sR_tell (k := 1) (hg.x e.x) (by decide) (fun υ e2 => ?_)
    have E := e.tr e2
    show (mdv W L1 l i = 0 → _) ∧ (¬ mdv W L1 l i = 0 → _)
    have pos : 0 < (T W (W 3 i)).1 := by omega
    refine ⟨fun z => ?_, fun z => ?_⟩
    · rintro _ rfl
      rw [Int32.or_zero]
      exact keep υ E (by unfold mdq; simp [z])
    · rintro _ rfl _ rfl
      rw [nI_1]
      refine kk _ _ ⟨E, bs_t ?_⟩
      unfold mdq mA mT
      simp [z, c, on, pos]
theorem pc_bite {ids : List Nat} {σ ρ : St} (a1 : Int32) (a2 : Int32) (h : Rel ids σ ρ) : wX11_bite ids a1 a2 σ (fun r σ1 => wX12_bite a1 a2 ρ (fun r2 ρ1 => r = r2 ∧ Rel ids σ1 ρ1)) := by
  obtain ⟨-, W, h⟩ := h
  have hv := h.iv
  have hc := hv.c
  have hd := h.dv
  obtain ⟨b, n, L0, L1, L2, hg, hh⟩ := h.tg
  refine sX_isMachine hv h.mx a1 (bI_d (fun c => ?_) (fun c => ?_))
  · refine sR_isMachine hv h.mr a1 ?_
    rw [c]
    exact dt rfl ⟨rfl, h.rel⟩
  obtain ⟨m, hm, rfl⟩ := wi_n (by omega) c
  refine sX_within 0 9999 rfl rfl (bI_e (fun c2 => ?_) (fun c2 => ?_))
  · refine sR_isMachine hv h.mr _ ?_
    rw [c]
    refine df (by decide) (sR_inI 0 9999 rfl rfl ?_)
    rw [c2]
    exact dn rfl ⟨rfl, h.rel⟩
  obtain ⟨v, hvv, rfl⟩ := wi_k (N := 9999) c2
  have h4 := hd.2.2.2.2.1 m hm
  have w4 : ∀ x y, ¬ x = 4 → wu W 4 m (W 4 m + v) x y = W x y := fun x y hx => wu_f hx y
  have hvl : Iv (wu W 4 m (W 4 m + v)) := hv.load m (by omega)
  have hsm : sm (wu W 4 m (W 4 m + v)) (wu W 4 m (W 4 m + v) 0 3) (mA (wu W 4 m (W 4 m + v))) < 2 ^ 31 := sm_bd hvl _
  -- the reference
  have rgo : ∀ P : Int32 → St → Prop, (∀ υ, EqR (uI ρ 0 35 (nI v)) υ → P (if W 0 2 < sm (wu W 4 m (W 4 m + v)) (wu W 4 m (W 4 m + v) 0 3) (mA (wu W 4 m (W 4 m + v))) then bs (W 0 3) (fun i => mdq W L1 (sm (wu W 4 m (W 4 m + v)) (wu W 4 m (W 4 m + v) 0 3) (mA (wu W 4 m (W 4 m + v)))) i && !decide (i = m)) else 0) υ) → wX12_bite (nI m) (nI v) ρ P := by
    intro P hP
    refine sR_isMachine hv h.mr _ ?_
    rw [c]
    refine df (by decide) (sR_inI 0 9999 rfl rfl ?_)
    rw [c2]
    refine dm (by decide) (sR_lays hv h.mr (fun τ e hS => ?_))
    have h34 : gI τ 0 34 = -1 := (e _ _ (by unfold scR; omega)).trans h.dr.2.2.2.2
    rintro _ rfl _ rfl
    have hSl : SR (wu W 4 m (W 4 m + v)) (uI (uI τ 0 34 (nI m)) 0 35 (nI v)) := by
      refine ⟨hS.1.bite h34 hm (by omega) v, fun s hs => ?_⟩
      rw [rT_ld w4]
      have := hS.2 s hs
      unfold vR at this ⊢
      rw [gI_o (by omega), gI_o (by omega)]
      exact this
    refine sR_allLoaded hvl hSl ?_
    rw [nI_l hsm]
    rintro _ rfl _ rfl
    have eq : ∀ c j, gI (uI (uI (uI τ 0 34 (nI m)) 0 35 (nI v)) 0 34 (-1)) c j = gI (uI τ 0 35 (nI v)) c j := fun c j => by
      by_cases q : c = 0 ∧ j = 34
      · rw [q.1, q.2, gI_s, gI_o (by omega), h34]
      · rw [gI_o q]
        by_cases q2 : c = 0 ∧ j = 35
        · rw [q2.1, q2.2, gI_s, gI_s]
        · rw [gI_o q2, gI_o q2, gI_o q]
    have hS4 : SR W (uI (uI (uI τ 0 34 (nI m)) 0 35 (nI v)) 0 34 (-1)) := by
      refine ⟨(hS.1.c35 h34 (by omega) (nI v)).eq (fun c j _ => eq c j), fun s hs => ?_⟩
      have := hS.2 s hs
      unfold vR at this ⊢
      rw [gI_o (by omega), gI_o (by omega), gI_o (by omega)]
      exact this
    have E4 : EqR (uI ρ 0 35 (nI v)) (uI (uI (uI τ 0 34 (nI m)) 0 35 (nI v)) 0 34 (-1)) := fun c j hs => by
      rw [eq, gI_uI, gI_uI]
      split
      · rfl
      · exact e c j hs
    rw [hS4.1.pw, nI_l (by omega), lg_cmp_gt, lN_ltI (by omega) (by omega)]
    refine ⟨fun g => ?_, fun g => ?_⟩
    · refine sR_bite66 hv hS4 (hh.eq (fun c j hcj => ?_)) gI_s hsm g hm (fun υ e2 => ?_)
      · rw [E4 c j (by unfold scR; omega), gI_o (by omega)]
      · have := hP υ (E4.tr e2.x)
        rw [if_pos g] at this
        exact this
    · have := hP _ E4
      rw [if_neg g] at this
      exact this
  refine sX_spin hv h.mx (fun τ e hS => ?_)
  obtain ⟨m1, -, m3, m4, m5, m6, m7, m8⟩ := hS.1.m hm
  refine ⟨vin (by omega) (by omega), 60 + m, by rw [nI_clamp (by omega)]; exact m1, hS.1.okM hv hm, ?_⟩
  rw [m6, nI_add]
  rintro _ rfl
  have hSl : SX (wu W 4 m (W 4 m + v)) ids (uI τ (60 + m) 3 (nI (W 4 m + v))) := by
    refine ⟨hS.1.one hv (W 4 m + v) (Or.inl ⟨hm, rfl, Or.inl ⟨rfl, rfl⟩⟩), fun s hs => ?_⟩
    rw [T_ld w4, gI_o (by omega)]
    exact hS.2 s hs
  refine sX_loadedInAll hvl hSl ?_
  rw [gI_s, nI_sub (by omega), show W 4 m + v - v = W 4 m by omega]
  rintro _ rfl
  have eq : ∀ c j, gI (uI (uI τ (60 + m) 3 (nI (W 4 m + v))) (60 + m) 3 (nI (W 4 m))) c j = gI τ c j := fun c j => by
    by_cases q : c = 60 + m ∧ j = 3
    · rw [q.1, q.2, gI_s, m6]
    · rw [gI_o q, gI_o q]
  have E4 : EqS τ (uI (uI τ (60 + m) 3 (nI (W 4 m + v))) (60 + m) 3 (nI (W 4 m))) := ⟨⟨fun _ _ => rfl, fun c j _ => eq c j⟩, fun _ _ => rfl, fun k => eq 8 k⟩
  refine sX_minding hv (hS.eq hv E4) hsm (hg.x (e.tr E4.1)) (fun υ e2 => rgo _ (fun υ2 e3 => ⟨?_, ((h.c35 (nI v)).eq ((e.tr E4.1).tr e2.1) e3).rel⟩))
  by_cases g : W 0 2 < sm (wu W 4 m (W 4 m + v)) (wu W 4 m (W 4 m + v) 0 3) (mA (wu W 4 m (W 4 m + v)))
  · rw [if_pos g, if_pos g]
    refine bs_eq (by omega) (fun i hi => ?_)
    rw [bt_and, xor_m1, bt_not _ hi, bt_one m (by omega) i hi, bt_bs _ (by omega) _ _ hi, Bool.and_assoc]
  · rw [if_neg g, if_neg g, Int32.zero_and]
