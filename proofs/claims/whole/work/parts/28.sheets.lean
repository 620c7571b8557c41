/-! PURE: the host's sheets -/
theorem RW.host {W : Vw} {ids : List Nat} {σ σ' ρ ρ' : St} (h : RW W ids σ ρ) (nX : ∀ c k, ¬ (44 ≤ c ∧ c < 52) → gI σ' c k = gI σ c k) (nR : ∀ c k, ¬ (31 ≤ c ∧ c ≤ 34) → gI ρ' c k = gI ρ c k) (hg : ∀ c k, gR σ' c k = gR σ c k) (hs : ∀ s, s < 4 → Sh1 σ' ρ' s) : RW W ids σ' ρ' := by
  have hv := h.iv
  refine ⟨h.1, h.2.1.fr (h.mx.fr hv (fun _ _ _ => rfl) ?_ hg) (h.dx.fr hv (fun _ _ _ => rfl) ?_) (h.ix.fr hv (fun _ _ _ => rfl) ?_) (h.ts.fr (fun _ _ _ => rfl) ?_) rfl rfl (fun _ => rfl) hg, ⟨h.mr.fr (fun _ _ _ => rfl) ?_, h.dr.fr (fun _ _ _ => rfl) ?_, h.ir.fr (fun _ _ _ => rfl) ?_, h.tq.fr (fun _ _ _ => rfl) ?_⟩, fun t ht => ?_, hs⟩
  · intro c k hk; unfold kM at hk; exact nX _ _ (by omega)
  · intro c k hk; unfold kD at hk; exact nX _ _ (by omega)
  · intro c k hk; unfold kI at hk; exact nX _ _ (by omega)
  · intro c k hk; unfold kT at hk; exact nX _ _ (by omega)
  · intro c k hk; unfold qM at hk; exact nR _ _ (by omega)
  · intro c k hk; unfold qD at hk; exact nR _ _ (by omega)
  · intro c k hk; unfold qI at hk; exact nR _ _ (by omega)
  · intro c k hk; unfold qT at hk; exact nR _ _ (by omega)
  · have := h.dv.1
    exact (h.tx t ht).cg (fun k => nX _ _ (by omega)) (fun k => nX _ _ (by omega)) (fun k => nR _ _ (by omega)) (fun k => nR _ _ (by omega))
theorem fill0 {ids : List Nat} {a0 : Nat} {σ : St} {post : St → Prop} (h : ∀ τ, (∀ c k, ¬ c = a0 → gI τ c k = gI σ c k) → (∀ i, i < 40 → gI τ a0 i = 0) → (∀ c k, gR τ c k = gR σ c k) → post τ) : wJ7_fill_53178 ids a0 40 (0 : Int32) σ post := by
  rintro v rfl
  show ∃ N, wJ7_fill_53178_5 ids a0 40 post 0 (nI 40) N 0 σ
  refine lpc1 (wJ7_fill_53178_5 ids a0 40 post 0 (nI 40)) 40 (by omega) (fun i τ => (∀ c k, ¬ c = a0 → gI τ c k = gI σ c k) ∧ (∀ j, j < i → gI τ a0 j = 0) ∧ ∀ c k, gR τ c k = gR σ c k) ?_ ?_ σ ⟨fun _ _ _ => rfl, fun j hj => absurd hj (Nat.not_lt_zero _), fun _ _ => rfl⟩
  · rintro n τ ⟨h1, h2, h3⟩
    rw [wJ7_fill_53178_5_s]
    exact dt (nI_le (Nat.le_refl _) (by omega)) (h τ h1 h2 h3)
  · rintro n i τ hi ⟨h1, h2, h3⟩ kk
    rw [wJ7_fill_53178_5_s]
    refine df (nI_ge hi (by omega)) ⟨vin (by omega) (by omega), ?_⟩
    rw [nI_clamp (by omega)]
    rintro σ3 rfl v4 rfl
    rw [nI_1]
    refine kk _ ⟨fun c k hc => by rw [gI_o (by omega)]; exact h1 c k hc, fun j hj => ?_, h3⟩
    by_cases e : j = i
    · subst e
      rw [gI_s]
    · rw [gI_o (by omega)]
      exact h2 j (by omega)
theorem sR_sheet77 {ρ : St} {s t n : Nat} (hs : s < 4) (ht : t < 2 ^ 31) (hn : n ≤ 40) {post : Int32 → St → Prop} (h : ∀ τ, (∀ c k, ¬ (c = 34 ∧ 40 * s ≤ k ∧ k < 40 * s + n) → gI τ c k = gI ρ c k) → (∀ i, i < n → gI τ 34 (40 * s + i) = 0) → post 1 τ) : ∃ N, wX12_sheet_77 post (nI s) (nI t) (nI n) N 0 ρ := by
  have e40 : (40 : Int32) = nI 40 := rfl
  refine lpc1 (wX12_sheet_77 post (nI s) (nI t) (nI n)) n (by omega) (fun i τ => (∀ c k, ¬ (c = 34 ∧ 40 * s ≤ k ∧ k < 40 * s + i) → gI τ c k = gI ρ c k) ∧ (∀ j, j < i → gI τ 34 (40 * s + j) = 0)) ?_ ?_ ρ ⟨fun _ _ _ => rfl, fun j hj => absurd hj (Nat.not_lt_zero _)⟩
  · rintro m τ ⟨h1, h2⟩
    rw [wX12_sheet_77_s]
    exact dt (nI_le (Nat.le_refl _) (by omega)) (h τ h1 h2)
  · rintro m i τ hi ⟨h1, h2⟩ kk
    rw [wX12_sheet_77_s]
    refine df (nI_ge hi (by omega)) (df (nI_pos (by omega)) ?_)
    rw [e40, nI_mul, nI_add]
    refine ⟨vin (by omega) (by omega), ?_⟩
    rw [nI_clamp (by omega)]
    rintro σ4 rfl v5 rfl
    rw [nI_1]
    refine kk _ ⟨fun c k hc => by rw [gI_o (by omega)]; exact h1 c k (by omega), fun j hj => ?_⟩
    by_cases e : j = i
    · subst e
      rw [gI_s]
    · rw [gI_o (by omega)]
      exact h2 j (by omega)
theorem sR_sheet77n {ρ : St} {s : Nat} (n : Int32) {post : Int32 → St → Prop} (h : post 1 ρ) : ∃ N, wX12_sheet_77 post (nI s) (-1) n N 0 ρ := by
  refine ⟨1, ?_⟩
  rw [wX12_sheet_77_s]
  exact ⟨fun _ => h, fun _ => dt (by decide) h⟩
theorem pc_sheet {ids : List Nat} {σ ρ : St} (a1 : Int32) (a2 : Int32) (a3 : Int32) (h : Rel ids σ ρ) : wX11_sheet ids a1 a2 a3 σ (fun r σ1 => wX12_sheet a1 a2 a3 ρ (fun r2 ρ1 => r = r2 ∧ Rel ids σ1 ρ1)) := by
  obtain ⟨-, W, h⟩ := h
  have m1 : (-1 : Int64).toInt = -1 := by decide
  refine sX_isSheet a1 (bI_d (fun b => ?_) (fun b => ?_))
  · refine sR_isSheet a1 ?_
    rw [b]
    exact dt rfl ⟨rfl, h.rel⟩
  · obtain ⟨s, hs, rfl⟩ := wi_k (N := 3) b
    by_cases z : a2 = -1
    · subst z
      refine dt rfl (dn rfl ⟨vin (by omega) (by omega), ?_⟩)
      rw [nI_clamp (by omega)]
      rintro s1 rfl s2 rfl
      refine fill0 (fun τ t1 t2 t3 => ?_)
      refine sR_isSheet _ ?_
      rw [b]
      refine df (by decide) (sR_inI (-1) 2 rfl rfl (df (by decide) (dt (by decide) (dt (by decide) (dt (by decide) ⟨vin (by omega) (by omega), isB_0, ?_⟩)))))
      rw [nI_clamp (by omega)]
      rintro r8 rfl
      refine ⟨vin (by omega) (by omega), ?_⟩
      rintro r10 rfl r12 rfl
      refine sR_sheet77n a3 ⟨rfl, (h.host (fun c k hc => ?_) (fun c k hc => ?_) (fun c k => t3 c k) (fun q hq => ?_)).rel⟩
      · rw [t1 _ _ (by omega), gI_o (by omega), gI_o (by omega)]
      · rw [gI_o (by omega), gI_o (by omega), gI_o (by omega)]
      · by_cases e : q = s
        · subst e
          left
          rw [t1 _ _ (by omega), gI_o (by omega), gI_s, gI_o (by omega), gI_o (by omega), gI_s]
          exact ⟨rfl, rfl⟩
        · refine (h.sh q hq).cg (fun k => ?_) (fun k => ?_) ?_ ?_ ?_ (fun k hk => ?_)
          · rw [t1 _ _ (by omega), gI_o (by omega), gI_o (by omega)]
          · rw [t1 _ _ (by omega), gI_o (by omega), gI_o (by omega)]
          · rw [gI_o (by omega), gI_o (by omega), gI_o (by omega)]
          · rw [gI_o (by omega), gI_o (by omega), gI_o (by omega)]
          · rw [gI_o (by omega), gI_o (by omega), gI_o (by omega)]
          · rw [gI_o (by omega), gI_o (by omega), gI_o (by omega)]
    · refine df z (sX_isSort a2 (bI_e (fun b2 => ?_) (fun b2 => ?_)))
      · refine sR_isSheet _ ?_
        rw [b]
        refine df (by decide) (sR_inI (-1) 2 rfl rfl (bI_d (fun _ => ⟨rfl, h.rel⟩) (fun b3 => ?_)))
        exfalso
        have y := of_decide_eq_true b3
        have : ¬ (0 ≤ a2.toInt ∧ a2.toInt ≤ 2) := of_decide_eq_false b2
        refine z ?_
        rw [fb_eq]
        have e1 : (-1 : Int32).toInt = -1 := by decide
        omega
      · obtain ⟨t, ht, rfl⟩ := wi_k (N := 2) b2
        have e40 : (40 : Int32) = nI 40 := rfl
        have rgo : ∀ P : Int32 → St → Prop, (¬ a3 ≤ 40 → P (-2) ρ) → (a3 ≤ 40 → ¬ 0 ≤ a3 → P (-14) ρ) → (∀ n, n ≤ 40 → a3 = nI n → ∀ τ, (∀ c k, ¬ (c = 34 ∧ 40 * s ≤ k ∧ k < 40 * s + n) → gI τ c k = gI (uI (uI (uI ρ 31 s 1) 32 s (nI t)) 33 s (nI n)) c k) → (∀ i, i < n → gI τ 34 (40 * s + i) = 0) → P 1 τ) → wX12_sheet (nI s) (nI t) a3 ρ P := by
          intro P p1 p2 p3
          refine sR_isSheet _ ?_
          rw [b]
          refine df (by decide) (sR_inI (-1) 2 rfl rfl ?_)
          rw [wi_t (by omega) (by omega) (by omega)]
          refine df (by decide) (df (nI_pos (by omega)) ⟨fun c => df (nI_pos (by omega)) ⟨fun c2 => ?_, fun c2 => p2 c c2⟩, fun c => p1 c⟩)
          obtain ⟨n, hn, en⟩ : ∃ n, n ≤ 40 ∧ a3 = nI n := by
            rw [fb_le] at c c2
            have x1 : (40 : Int32).toInt = 40 := by decide
            have x0 : (0 : Int32).toInt = 0 := by decide
            exact fb_of (N := 40) (by omega) (by omega)
          have q3 := p3 n hn en
          subst en
          refine df (nI_pos (by omega)) ⟨vin (by omega) (by omega), isB_1, ?_⟩
          rw [nI_clamp (by omega)]
          rintro r8 rfl
          refine ⟨vin (by omega) (by omega), ?_⟩
          rintro r10 rfl r12 rfl
          exact sR_sheet77 (by omega) (by omega) hn q3
        refine dm (ne_m1 (by omega)) ⟨fun c => ⟨fun c2 => ⟨vin (by omega) (by omega), ?_⟩, fun c2 => rgo _ (fun y => absurd c y) (fun _ _ => ⟨rfl, h.rel⟩) (fun n hn en => ?_)⟩, fun c => rgo _ (fun _ => ⟨rfl, h.rel⟩) (fun y => absurd y c) (fun n hn en => ?_)⟩
        · rw [nI_clamp (by omega)]
          rintro s1 rfl s2 rfl
          refine fill0 (fun τ t1 t2 t3 => ?_)
          refine rgo _ (fun y => absurd c y) (fun _ y => absurd c2 y) (fun n hn en υ u1 u2 => ?_)
          subst en
          refine ⟨rfl, (h.host (fun c k hc => ?_) (fun c k hc => ?_) (fun c k => t3 c k) (fun q hq => ?_)).rel⟩
          · rw [t1 _ _ (by omega), gI_o (by omega), gI_o (by omega)]
          · rw [u1 _ _ (by omega), gI_o (by omega), gI_o (by omega), gI_o (by omega)]
          · by_cases e : q = s
            · subst e
              right
              refine ⟨t, n, by omega, hn, ?_, ?_, ?_, ?_, ?_, fun i hi => ?_⟩
              · rw [t1 _ _ (by omega), gI_o (by omega), gI_s]
              · rw [t1 _ _ (by omega), gI_s]
              · rw [u1 _ _ (by omega), gI_o (by omega), gI_o (by omega), gI_s]
              · rw [u1 _ _ (by omega), gI_o (by omega), gI_s]
              · rw [u1 _ _ (by omega), gI_s]
              · rw [u2 i hi]
                have := t2 i (by omega)
                rw [show 45 + 2 * q = 44 + 2 * q + 1 by omega]
                exact this
            · refine (h.sh q hq).cg (fun k => ?_) (fun k => ?_) ?_ ?_ ?_ (fun k hk => ?_)
              · rw [t1 _ _ (by omega), gI_o (by omega), gI_o (by omega)]
              · rw [t1 _ _ (by omega), gI_o (by omega), gI_o (by omega)]
              · rw [u1 _ _ (by omega), gI_o (by omega), gI_o (by omega), gI_o (by omega)]
              · rw [u1 _ _ (by omega), gI_o (by omega), gI_o (by omega), gI_o (by omega)]
              · rw [u1 _ _ (by omega), gI_o (by omega), gI_o (by omega), gI_o (by omega)]
              · rw [u1 _ _ (by omega), gI_o (by omega), gI_o (by omega), gI_o (by omega)]
        · exact absurd (by rw [en]; exact nI_pos' (by omega)) c2
        · exact absurd (by rw [en, e40]; exact nI_le hn (by omega)) c
-- cell
theorem pc_cell {ids : List Nat} {σ ρ : St} (a1 : Int32) (a2 : Int32) (a3 : Int32) (h : Rel ids σ ρ) : wX11_cell ids a1 a2 a3 σ (fun r σ1 => wX12_cell a1 a2 a3 ρ (fun r2 ρ1 => r = r2 ∧ Rel ids σ1 ρ1)) := by
  obtain ⟨-, W, h⟩ := h
  refine sX_isSheet a1 (bI_e (fun b => ?_) (fun b => ?_))
  · refine sR_isSheet a1 ?_
    rw [b]
    exact dn rfl ⟨rfl, h.rel⟩
  · obtain ⟨s, hs, rfl⟩ := wi_k (N := 3) b
    refine ⟨vin (by omega) (by omega), ?_⟩
    rw [nI_clamp (by omega)]
    have hsh := h.sh s (by omega)
    rcases hsh with ⟨x1, x2⟩ | ⟨t, n, ht, hn, x1, x2, x3, x4, x5, x6⟩
    · refine dn x1 ?_
      refine sR_isSheet _ ?_
      rw [b]
      refine dm (by decide) ⟨vin (by omega) (by omega), ?_⟩
      rw [nI_clamp (by omega)]
      exact dn x2 ⟨rfl, h.rel⟩
    · have e40 : (40 : Int32) = nI 40 := rfl
      have rgo : ∀ P : Int32 → St → Prop, (wi a2.toInt 0 ((n : Int) - 1) = false → P (-12) ρ) → (∀ i, i < n → a2 = nI i → P 1 (uI ρ 34 (40 * s + i) (if t = 0 then a3.toInt8.toInt32 else if t = 1 then a3.toInt16.toInt32 else a3))) → wX12_cell (nI s) a2 a3 ρ P := by
        intro P p1 p2
        refine sR_isSheet _ ?_
        rw [b]
        refine dm (by decide) ⟨vin (by omega) (by omega), ?_⟩
        rw [nI_clamp (by omega), x3, x5]
        refine dm (by decide) (sR_inI 0 ((n : Int) - 1) rfl (nI_m1L (by omega)) (bI_e (fun b2 => p1 b2) (fun b2 => ?_)))
        obtain ⟨i, hi, rfl⟩ := wi_n (by omega) b2
        have q := p2 i hi rfl
        rw [x4, e40, nI_mul, nI_add]
        have fin : ∀ v, v = (if t = 0 then a3.toInt8.toInt32 else if t = 1 then a3.toInt16.toInt32 else a3) → wX12_cell_83 P (nI (40 * s + i)) v ρ := by
          rintro v rfl
          refine ⟨vin (by omega) (by omega), ?_⟩
          rw [nI_clamp (by omega)]
          rintro r2 rfl
          exact q
        have : t = 0 ∨ t = 1 ∨ t = 2 := by omega
        rcases this with rfl | rfl | rfl
        · exact dn rfl (fin _ rfl)
        · exact dm (by decide) (dn rfl (fin _ rfl))
        · exact dm (by decide) (dm (by decide) (fin _ rfl))
      refine dm (by rw [x1]; exact ne_m1 (by omega)) (sX_within 0 ((n : Int) - 1) rfl (by rw [x2]; exact nI_m1 (by omega)) (bI_e (fun b2 => rgo _ (fun _ => ⟨rfl, h.rel⟩) (fun i hi e => ?_)) (fun b2 => ?_)))
      · rw [e, wi_t (by omega) (by omega) (by omega)] at b2
        exact absurd b2 (by decide)
      · obtain ⟨i, hi, rfl⟩ := wi_n (by omega) b2
        have fin : ∀ σ2, σ2 = uI σ (44 + 2 * s + 1) i (if t = 0 then a3.toInt8.toInt32 else if t = 1 then a3.toInt16.toInt32 else a3) → wX12_cell (nI s) (nI i) a3 ρ (fun r2 ρ1 => (1 : Int32) = r2 ∧ Rel ids σ2 ρ1) := by
          rintro σ2 rfl
          refine rgo _ (fun z => by rw [b2] at z; exact absurd z (by decide)) (fun i' hi' e => ?_)
          obtain rfl := nI_inj (by omega) (by omega) e
          refine ⟨rfl, (h.host (fun c k hc => gI_o (by omega)) (fun c k hc => gI_o (by omega)) (fun _ _ => rfl) (fun q hq => ?_)).rel⟩
          by_cases e : q = s
          · subst e
            right
            refine ⟨t, n, ht, hn, ?_, ?_, ?_, ?_, ?_, fun j hj => ?_⟩
            · rw [gI_o (by omega)]; exact x1
            · rw [gI_o (by omega)]; exact x2
            · rw [gI_o (by omega)]; exact x3
            · rw [gI_o (by omega)]; exact x4
            · rw [gI_o (by omega)]; exact x5
            · rw [show 45 + 2 * q = 44 + 2 * q + 1 by omega]
              by_cases ej : j = i
              · subst ej
                rw [gI_s, gI_s]
              · rw [gI_o (by omega), gI_o (by omega)]
                have y6 := x6 j hj
                rw [show 45 + 2 * q = 44 + 2 * q + 1 by omega] at y6
                exact y6
          · exact (h.sh q hq).cg (fun k => gI_o (by omega)) (fun k => gI_o (by omega)) (gI_o (by omega)) (gI_o (by omega)) (gI_o (by omega)) (fun k hk => gI_o (by omega))
        rintro v rfl
        rw [x1]
        have : t = 0 ∨ t = 1 ∨ t = 2 := by omega
        rcases this with rfl | rfl | rfl
        · refine ⟨fun _ => ⟨vin (by omega) (by omega), ?_⟩, fun c => absurd c (by decide), fun c => absurd rfl c.1⟩
          rw [nI_clamp (by omega)]
          exact fin
        · refine ⟨fun c => absurd c (by decide), fun _ => ⟨vin (by omega) (by omega), ?_⟩, fun c => absurd rfl c.2⟩
          rw [nI_clamp (by omega)]
          exact fin
        · refine ⟨fun c => absurd c (by decide), fun c => absurd c (by decide), fun _ => ⟨vin (by omega) (by omega), ?_⟩⟩
          rw [nI_clamp (by omega)]
          exact fin
-- copy
theorem sR_copy121 {ρ : St} {s o i j n : Nat} (hs : s < 4) (ho : o < 4) (hi : i + n ≤ 40) (hj : j + n ≤ 40) (up : Bool) (hup : up = decide (s = o ∧ i < j)) {post : Int32 → St → Prop} (h : ∀ τ, (∀ c k, ¬ c = 34 → gI τ c k = gI ρ c k) → (∀ x, gI τ 34 x = if 40 * o + j ≤ x ∧ x < 40 * o + j + n then gI ρ 34 (40 * s + i + (x - (40 * o + j))) else gI ρ 34 x) → post (nI n) τ) : ∃ N, wX12_copy_121 post (nI s) (nI i) (nI o) (nI j) (nI n) (bI up) N 0 ρ := by
  have e40 : (40 : Int32) = nI 40 := rfl
  refine lpc1 (wX12_copy_121 post (nI s) (nI i) (nI o) (nI j) (nI n) (bI up)) n (by omega) (fun k τ => (∀ c k, ¬ c = 34 → gI τ c k = gI ρ c k) ∧ (∀ x, gI τ 34 x = if (if up then 40 * o + j + n - k ≤ x ∧ x < 40 * o + j + n else 40 * o + j ≤ x ∧ x < 40 * o + j + k) then gI ρ 34 (40 * s + i + (x - (40 * o + j))) else gI ρ 34 x)) ?_ ?_ ρ ⟨fun _ _ _ => rfl, fun x => ?_⟩
  · rintro m τ ⟨h1, h2⟩
    rw [wX12_copy_121_s]
    refine dt (nI_le (Nat.le_refl _) (by omega)) (h τ h1 (fun x => ?_))
    rw [h2 x]
    cases up
    · rfl
    · have : 40 * o + j + n - n = 40 * o + j := by omega
      simp only [if_true, this]
  · rintro m k τ hk ⟨h1, h2⟩ kk
    rw [wX12_copy_121_s]
    refine df (nI_ge hk (by omega)) ?_
    have go : ∀ q, q < n → q = (if up then n - 1 - k else k) → wX12_copy_145 (wX12_copy_121 post (nI s) (nI i) (nI o) (nI j) (nI n) (bI up) m) post (nI s) (nI i) (nI o) (nI j) (nI n) (bI up) (nI k) (nI q) τ := by
      intro q hq eq
      have v1 : ((40 : Int32) * nI s + nI i + nI q) = nI (40 * s + i + q) := by rw [e40, nI_mul, nI_add, nI_add]
      have v2 : ((40 : Int32) * nI o + nI j + nI q) = nI (40 * o + j + q) := by rw [e40, nI_mul, nI_add, nI_add]
      unfold wX12_copy_145
      rw [v1, v2]
      refine ⟨vin (by omega) (by omega), vin (by omega) (by omega), ?_⟩
      rw [nI_clamp (by omega), nI_clamp (by omega)]
      rintro s3 rfl v4 rfl
      rw [nI_1]
      have src : gI τ 34 (40 * s + i + q) = gI ρ 34 (40 * s + i + q) := by
        rw [h2, if_neg]
        cases up
        · have hd : ¬ (s = o ∧ i < j) := of_decide_eq_false hup.symm
          simp only [Bool.false_eq_true, if_false] at eq ⊢
          by_cases so : s = o
          · subst so; omega
          · omega
        · have hd : (s = o ∧ i < j) := of_decide_eq_true hup.symm
          simp only [if_true] at eq ⊢
          obtain ⟨rfl, hij⟩ := hd
          omega
      refine kk _ ⟨fun c k hc => by rw [gI_o (by omega)]; exact h1 c k hc, fun x => ?_⟩
      rw [gI_uI]
      by_cases e : x = 40 * o + j + q
      · subst e
        rw [if_pos ⟨rfl, rfl⟩, src]
        have c : (if up = true then 40 * o + j + n - (k + 1) ≤ 40 * o + j + q ∧ 40 * o + j + q < 40 * o + j + n else 40 * o + j ≤ 40 * o + j + q ∧ 40 * o + j + q < 40 * o + j + (k + 1)) := by
          cases up
          · simp only [Bool.false_eq_true, if_false] at eq ⊢
            omega
          · simp only [if_true] at eq ⊢
            omega
        rw [if_pos c]
        congr 1
        omega
      · rw [if_neg (fun z => e z.2), h2 x]
        have c : (if up = true then 40 * o + j + n - (k + 1) ≤ x ∧ x < 40 * o + j + n else 40 * o + j ≤ x ∧ x < 40 * o + j + (k + 1)) ↔ (if up = true then 40 * o + j + n - k ≤ x ∧ x < 40 * o + j + n else 40 * o + j ≤ x ∧ x < 40 * o + j + k) := by
          cases up
          · simp only [Bool.false_eq_true, if_false] at eq ⊢
            omega
          · simp only [if_true] at eq ⊢
            omega
        by_cases c2 : (if up = true then 40 * o + j + n - k ≤ x ∧ x < 40 * o + j + n else 40 * o + j ≤ x ∧ x < 40 * o + j + k)
        · rw [if_pos c2, if_pos (c.mpr c2)]
        · rw [if_neg c2, if_neg (fun z => c2 (c.mp z))]
    cases hu : up
    · exact dt rfl (by have := go k hk (by rw [hu]; rfl); rw [hu] at this; exact this)
    · refine df (by decide) ?_
      have e1 : nI n - 1 - nI k = nI (n - 1 - k) := by
        have : (1 : Int32) = nI 1 := rfl
        rw [this, nI_sub (by omega), nI_sub (by omega)]
      rw [e1]
      have := go (n - 1 - k) (by omega) (by rw [hu]; rfl)
      rw [hu] at this
      exact this
  · rw [if_neg]
    cases up
    · simp only [Bool.false_eq_true, if_false]; omega
    · simp only [if_true]; omega
