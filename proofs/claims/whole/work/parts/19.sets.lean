/-! PURE: calls that set a thing -/
theorem RW.up {W W' : Vw} {ids : List Nat} {σ σ' ρ ρ' : St} (h : RW W ids σ ρ) (hv' : Iv W') (hd' : Dv W') (hX : RX W' ids σ') (hR : RR W' ρ') (ht : W' 0 12 = W 0 12) (kX : ∀ c k, 20 ≤ c → c < 52 → gI σ' c k = gI σ c k) (kR : ∀ c k, (c = 1 ∨ c = 2 ∨ (31 ≤ c ∧ c ≤ 34)) → gI ρ' c k = gI ρ c k) : RW W' ids σ' ρ' := by
  refine ⟨⟨hv', hd'⟩, hX, hR, fun t ht' => ?_, fun s hs => ?_⟩
  · rw [ht] at ht'
    have := h.dv.1
    exact (h.tx t ht').cg (fun k => kX _ _ (by omega) (by omega)) (fun k => kX _ _ (by omega) (by omega)) (fun k => kR _ _ (by omega)) (fun k => kR _ _ (by omega))
  · exact (h.sh s hs).cg (fun k => kX _ _ (by omega) (by omega)) (fun k => kX _ _ (by omega) (by omega)) (kR _ _ (by omega)) (kR _ _ (by omega)) (kR _ _ (by omega)) (fun k _ => kR _ _ (by omega))
theorem RX.fr {W W' : Vw} {ids : List Nat} {σ σ' : St} (h : RX W ids σ) (hM : MX W' ids σ') (hD : DX W' σ') (hI : IX W' σ') (hT : TS W' σ') (h3 : W' 0 3 = W 0 3) (h4 : W' 0 4 = W 0 4) (h10 : ∀ k, W' 10 k = W 10 k) (hR : ∀ c k, gR σ' c k = gR σ c k) : RX W' ids σ' := ⟨h.1.fr h3 h4 h10 hR, hM, hD, hI, hT⟩
-- force
theorem pc_force {ids : List Nat} {σ ρ : St} (a1 : Int32) (h : Rel ids σ ρ) : wX11_force ids a1 σ (fun r σ1 => wX12_force a1 ρ (fun r2 ρ1 => r = r2 ∧ Rel ids σ1 ρ1)) := by
  obtain ⟨-, W, h⟩ := h
  have hv := h.iv
  obtain ⟨d1, d2, d3, d4, d5, d6, d7, d8⟩ := h.dv
  obtain ⟨t1, t2, t3, t4⟩ := h.ts
  obtain ⟨q1, q2, q3, q4⟩ := h.tq
  refine sX_within 0 ((W 0 12 : Int) - 1) rfl (by rw [t1]; exact nI_m1 (by omega)) (bI_e (fun b => ?_) (fun b => ?_))
  · refine sR_inI 0 ((W 0 12 : Int) - 1) rfl (by rw [q1]; exact nI_m1L (by omega)) ?_
    rw [b]
    exact dn rfl ⟨rfl, h.rel⟩
  · obtain ⟨j, hj, rfl⟩ := wi_n (by omega) b
    rintro v rfl σ5 rfl
    refine sR_inI 0 ((W 0 12 : Int) - 1) rfl (by rw [q1]; exact nI_m1L (by omega)) ?_
    rw [b]
    refine dm (by decide) ?_
    rintro v rfl ρ5 rfl
    refine ⟨t2.trans q2.symm, RW.rel (W := wu W 0 13 j) ?_⟩
    refine (h.up (W' := wu W 0 13 j) (σ' := uI σ 0 4 (nI j)) (ρ' := uI ρ 0 4 (nI j)) (hv.fr ?_) ⟨?_, d2, d3, d4, d5, d6, d7, d8⟩ (h.2.1.fr (h.mx.fr hv ?_ ?_ (fun _ _ => rfl)) (h.dx.fr hv ?_ ?_) (h.ix.fr hv ?_ ?_) ⟨?_, ?_, ?_, ?_⟩ rfl rfl (fun _ => rfl) (fun _ _ => rfl)) ⟨h.mr.fr ?_ ?_, h.dr.fr ?_ ?_, h.ir.fr ?_ ?_, ?_, ?_, ?_, ?_⟩ rfl ?_ ?_)
    · intro a b hc; exact wu_o (by unfold cM at hc; omega)
    · exact ⟨d1.1, d1.2.1, d1.2.2.1, d1.2.2.2.1, d1.2.2.2.2.1, d1.2.2.2.2.2.1, hj, d1.2.2.2.2.2.2.2⟩
    · intro a b hc; exact wu_o (by unfold cM at hc; omega)
    · intro c k hk; exact gI_o (by unfold kM at hk; omega)
    · intro a b hc; exact wu_o (by unfold cD at hc; omega)
    · intro c k hk; exact gI_o (by unfold kD at hk; omega)
    · intro a b hc; exact wu_o (by unfold cI at hc; omega)
    · intro c k hk; exact gI_o (by unfold kI at hk; omega)
    · rw [gI_o (by omega)]; exact t1
    · rw [gI_s]; rfl
    · rw [gI_o (by omega)]; exact t3
    · intro i hi
      rw [gI_o (by omega)]
      exact t4 i hi
    · intro a b hc; exact wu_o (by unfold cM at hc; omega)
    · intro c k hk; exact gI_o (by unfold qM at hk; omega)
    · intro a b hc; exact wu_o (by unfold cD at hc; omega)
    · intro c k hk; exact gI_o (by unfold qD at hk; omega)
    · intro a b hc; exact wu_o (by unfold cI at hc; omega)
    · intro c k hk; exact gI_o (by unfold qI at hk; omega)
    · rw [gI_o (by omega)]; exact q1
    · rw [gI_s]; rfl
    · rw [gI_o (by omega)]; exact q3
    · intro i hi
      rw [gI_o (by omega)]
      exact q4 i hi
    · intro c k h1 h2; exact gI_o (by omega)
    · intro c k hk; exact gI_o (by omega)
/-- a change that only the mill's view sees -/
theorem RW.mill {W W' : Vw} {ids : List Nat} {σ σ' ρ ρ' : St} (h : RW W ids σ ρ) (hv' : Iv W') (hd' : Dv W') (hM : MX W' ids σ') (hR : MR W' ρ') (hW : ∀ a b, cD a b ∨ cI a b ∨ cT a b → W' a b = W a b) (hI : ∀ c k, kD c k ∨ kI c k ∨ kT c k ∨ (20 ≤ c ∧ c < 52) → gI σ' c k = gI σ c k) (hQ : ∀ c k, qD c k ∨ qI c k ∨ qT c k ∨ (c = 1 ∨ c = 2 ∨ (31 ≤ c ∧ c ≤ 34)) → gI ρ' c k = gI ρ c k) (hg : ∀ c k, gR σ' c k = gR σ c k) : RW W' ids σ' ρ' := by
  have hv := h.iv
  refine h.up hv' hd' (h.2.1.fr hM (h.dx.fr hv ?_ ?_) (h.ix.fr hv ?_ ?_) (h.ts.fr ?_ ?_) (hW _ _ ?_) (hW _ _ ?_) (fun k => hW _ _ ?_) hg) ⟨hR, h.dr.fr ?_ ?_, h.ir.fr ?_ ?_, h.tq.fr ?_ ?_⟩ (hW _ _ ?_) ?_ ?_
  · intro a b hc; exact hW a b (Or.inl hc)
  · intro a b hc; exact hI a b (Or.inl hc)
  · intro a b hc; exact hW a b (Or.inr (Or.inl hc))
  · intro a b hc; exact hI a b (Or.inr (Or.inl hc))
  · intro a b hc; exact hW a b (Or.inr (Or.inr hc))
  · intro a b hc; exact hI a b (Or.inr (Or.inr (Or.inl hc)))
  · unfold cD cI cT; omega
  · unfold cD cI cT; omega
  · unfold cD cI cT; omega
  · intro a b hc; exact hW a b (Or.inl hc)
  · intro a b hc; exact hQ a b (Or.inl hc)
  · intro a b hc; exact hW a b (Or.inr (Or.inl hc))
  · intro a b hc; exact hQ a b (Or.inr (Or.inl hc))
  · intro a b hc; exact hW a b (Or.inr (Or.inr hc))
  · intro a b hc; exact hQ a b (Or.inr (Or.inr (Or.inl hc)))
  · unfold cD cI cT; omega
  · intro c k h1 h2; exact hI c k (Or.inr (Or.inr (Or.inr ⟨h1, h2⟩)))
  · intro c k hc; exact hQ c k (Or.inr (Or.inr (Or.inr hc)))
-- engine
theorem pc_engine_up {W : Vw} {ids : List Nat} {σ ρ : St} (h : RW W ids σ ρ) {w v : Nat} (hw : (w = 1 ∧ 1 ≤ v ∧ v ≤ 999) ∨ (w = 2 ∧ v ≤ 9999)) : RW (wu W 0 w v) ids (uI σ 1 (13 + w) (nI v)) (uI ρ 0 (9 + w) (nI v)) := by
  have hv := h.iv
  have hc := hv.c
  have hx := h.mx
  have hr := h.mr
  refine h.mill ?_ (h.dv.fr ?_) ?_ ?_ ?_ ?_ ?_ (fun _ _ => rfl)
  · obtain ⟨h1, h2, h3, h4, h5, h6, h7, h8⟩ := hv
    rcases hw with ⟨rfl, g1, g2⟩ | ⟨rfl, g2⟩
    · exact ⟨⟨h1.1, g2, g1, h1.2.2.2⟩, h2, h3, h4, h5, h6, h7, h8⟩
    · exact ⟨⟨h1.1, h1.2.1, h1.2.2.1, g2, h1.2.2.2.2⟩, h2, h3, h4, h5, h6, h7, h8⟩
  · intro a b hc; exact wu_o (by unfold cV at hc; omega)
  · have n : ∀ c j, ¬ (c = 1 ∧ j = 13 + w) → gI (uI σ 1 (13 + w) (nI v)) c j = gI σ c j := fun c j h => gI_o h
    refine ⟨?_, ?_, ?_, ?_, ?_⟩
    · obtain ⟨h1, h2, h3, h4, h5⟩ := hx.1
      refine ⟨?_, ?_, ?_, ?_, ?_⟩
      · rw [n _ _ (by omega)]; rw [wu_o (by omega)]; exact h1
      · rw [n _ _ (by omega)]; rw [wu_o (by omega)]; exact h2
      · rw [n _ _ (by omega)]; rw [wu_o (by omega)]; exact h3
      · rcases hw with ⟨rfl, g1, g2⟩ | ⟨rfl, g2⟩
        · rw [gI_s]; rfl
        · rw [n _ _ (by omega)]; exact h4
      · rcases hw with ⟨rfl, g1, g2⟩ | ⟨rfl, g2⟩
        · rw [n _ _ (by omega)]; exact h5
        · rw [gI_s]; rfl
    · intro s hs
      rw [wu_o (by omega)] at hs
      obtain ⟨h1, h2⟩ := hx.s hs
      refine ⟨?_, ?_⟩
      all_goals rw [n _ _ (by omega)]
      all_goals assumption
    · intro m hm
      rw [wu_o (by omega)] at hm
      obtain ⟨h1, h2, h3, h4, h5, h6, h7, h8⟩ := hx.m hm
      refine ⟨h1, h2, ?_, ?_, ?_, ?_, ?_, ?_⟩
      all_goals rw [n _ _ (by omega)]
      all_goals assumption
    · intro k hk
      rw [wu_o (by omega)] at hk
      have hr := bO_r hv hk
      obtain ⟨h1, h2, h3, h4, h5, h6, h7, h8, h9⟩ := hx.b hk
      have eb : bO (wu W 0 w v) k = bO W k := rfl
      rw [eb]
      refine ⟨h1, h2, ?_, ?_, ?_, ?_, ?_, ?_, ?_⟩
      all_goals rw [n _ _ (by omega)]
      all_goals assumption
    · intro i hi
      rw [wu_o (by omega)] at hi
      rw [n _ _ (by omega)]
      exact hx.o hi
  · have n : ∀ c j, ¬ (c = 0 ∧ j = 9 + w) → gI (uI ρ 0 (9 + w) (nI v)) c j = gI ρ c j := fun c j h => gI_o h
    have q2 : ∀ c, 4 ≤ c → c ≤ 19 → ∀ j, gI (uI ρ 0 (9 + w) (nI v)) c j = gI ρ c j := fun c h1 h2 j => n c j (by omega)
    have w3 : wu W 0 w v 0 3 = W 0 3 := wu_o (by omega)
    have w4 : wu W 0 w v 0 4 = W 0 4 := wu_o (by omega)
    have w0 : wu W 0 w v 0 0 = W 0 0 := wu_o (by omega)
    obtain ⟨⟨h1, h2, h3, h4, h5⟩, h6, h7, h8⟩ := hr
    unfold MR
    rw [w0, w3, w4, n 0 9 (by omega), n 0 18 (by omega), n 0 28 (by omega), n 0 34 (by omega), n 0 35 (by omega), n 0 29 (by omega), n 0 30 (by omega)]
    simp only [q2 4 (by omega) (by omega), q2 5 (by omega) (by omega), q2 6 (by omega) (by omega), q2 7 (by omega) (by omega), q2 8 (by omega) (by omega), q2 9 (by omega) (by omega), q2 10 (by omega) (by omega), q2 11 (by omega) (by omega), q2 12 (by omega) (by omega), q2 13 (by omega) (by omega), q2 14 (by omega) (by omega), q2 15 (by omega) (by omega), q2 16 (by omega) (by omega), q2 17 (by omega) (by omega), q2 18 (by omega) (by omega), q2 19 (by omega) (by omega)]
    refine ⟨⟨h1, h2, h3, ?_, ?_⟩, h6, h7, h8⟩
    · rcases hw with ⟨rfl, g1, g2⟩ | ⟨rfl, g2⟩
      · rw [gI_s]; rfl
      · rw [n _ _ (by omega)]; exact h4
    · rcases hw with ⟨rfl, g1, g2⟩ | ⟨rfl, g2⟩
      · rw [n _ _ (by omega)]; exact h5
      · rw [gI_s]; rfl
  · intro a b hc; exact wu_o (by unfold cD cI cT at hc; omega)
  · intro c k hk; exact gI_o (by unfold kD kI kT at hk; omega)
  · intro c k hk; exact gI_o (by unfold qD qI qT at hk; omega)
theorem pc_engine {ids : List Nat} {σ ρ : St} (a1 : Int32) (a2 : Int32) (h : Rel ids σ ρ) : wX11_engine ids a1 a2 σ (fun r σ1 => wX12_engine a1 a2 ρ (fun r2 ρ1 => r = r2 ∧ Rel ids σ1 ρ1)) := by
  obtain ⟨-, W, h⟩ := h
  have bad : ∀ P : Int32 → St → Prop, P (-2) ρ → (wi a1.toInt 0 1 = false ∨ (a1 = 0 ∧ wi a2.toInt 1 999 = false) ∨ (a1 = 1 ∧ wi a2.toInt 1 9999 = false)) → wX12_engine a1 a2 ρ P := by
    intro P hP c
    refine sR_inI 0 1 rfl rfl (bI_d (fun b => hP) (fun b => ?_))
    rcases c with c | ⟨rfl, c⟩ | ⟨rfl, c⟩
    · rw [b] at c; exact absurd c (by decide)
    · refine dn rfl (sR_inI 1 999 rfl rfl ?_)
      rw [c]
      exact dn rfl hP
    · refine dm (by decide) (sR_inI 1 9999 rfl rfl ?_)
      rw [c]
      exact dn rfl hP
  have p33 : ¬ a1 = 0 → wX11_engine_33 ids (fun r σ1 => wX12_engine a1 a2 ρ (fun r2 ρ1 => r = r2 ∧ Rel ids σ1 ρ1)) a1 a2 σ := by
    intro n0
    by_cases n1 : a1 = 1
    · subst n1
      refine dn rfl (sX_within 1 9999 rfl rfl (bI_d (fun b => ?_) (fun b => ?_)))
      · exact bad _ ⟨rfl, h.rel⟩ (Or.inr (Or.inr ⟨rfl, b⟩))
      · obtain ⟨v, hv1, hv2, rfl⟩ := wi_1 (by decide) b
        rintro w rfl σ6 rfl
        refine sR_inI 0 1 rfl rfl (df (by decide) (dm (by decide) (sR_inI 1 9999 rfl rfl ?_)))
        rw [b]
        refine dm (by decide) (dm (by decide) (dm (by decide) ?_))
        rintro ρ2 rfl
        exact ⟨h.mx.pw.trans h.mr.pw.symm, (pc_engine_up h (w := 2) (Or.inr ⟨rfl, hv2⟩)).rel⟩
    · refine dm n1 ?_
      refine bad _ ⟨rfl, h.rel⟩ (Or.inl ?_)
      cases b : wi a1.toInt 0 1
      · rfl
      · obtain ⟨j, hj, e⟩ := wi_k (N := 1) b
        have : j = 0 ∨ j = 1 := by omega
        rcases this with rfl | rfl
        · exact absurd e n0
        · exact absurd e n1
  refine ⟨p33, fun n0 => ?_⟩
  subst n0
  refine sX_within 1 999 rfl rfl (bI_d (fun b => ?_) (fun b => ?_))
  · exact dm (by decide) (bad _ ⟨rfl, h.rel⟩ (Or.inr (Or.inl ⟨rfl, b⟩)))
  · obtain ⟨v, hv1, hv2, rfl⟩ := wi_1 (by decide) b
    rintro w rfl σ6 rfl
    refine sR_inI 0 1 rfl rfl (df (by decide) (dn rfl (sR_inI 1 999 rfl rfl ?_)))
    rw [b]
    refine dm (by decide) (dn rfl (dn rfl ?_))
    rintro ρ2 rfl
    exact ⟨h.mx.et.trans h.mr.et.symm, (pc_engine_up h (w := 1) (Or.inl ⟨rfl, hv1, hv2⟩)).rel⟩
