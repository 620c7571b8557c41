/-! PURE: one cell changes: machines, belts -/
theorem one_line {σ : St} {W : Vw} {a b C K v a' b' c k : Nat} (h : gI σ c k = nI (W a' b')) (i : (c = C ∧ k = K) ↔ (a' = a ∧ b' = b)) : gI (uI σ C K (nI v)) c k = nI (wu W a b v a' b') := by
  rw [gI_uI]
  unfold wu
  by_cases z : c = C ∧ k = K
  · rw [if_pos z, if_pos (i.mp z)]
  · rw [if_neg z, if_neg (fun y => z (i.mpr y))]
    exact h
theorem MX.one {W : Vw} {ids : List Nat} {σ : St} (hv : Iv W) (h : MX W ids σ) {a b C K : Nat} (v : Nat) (hC : (b < W 0 3 ∧ C = 60 + b ∧ ((a = 4 ∧ K = 3) ∨ (a = 7 ∧ K = 4) ∨ (a = 8 ∧ K = 5))) ∨ (b < W 0 4 ∧ C = bO W b ∧ ((a = 14 ∧ K = 8) ∨ (a = 15 ∧ K = 6) ∨ (a = 16 ∧ K = 7)))) : MX (wu W a b v) ids (uI σ C K (nI v)) := by
  have hc := hv.c
  have hC2 : (b < W 0 3 ∧ C = 60 + b ∧ ((a = 4 ∧ K = 3) ∨ (a = 7 ∧ K = 4) ∨ (a = 8 ∧ K = 5))) ∨ (72 ≤ C ∧ C < 128 ∧ C / 8 = 9 + b ∧ C = bO W b ∧ ((a = 14 ∧ K = 8) ∨ (a = 15 ∧ K = 6) ∨ (a = 16 ∧ K = 7))) := by
    rcases hC with g | ⟨g1, g2, g3⟩
    · exact Or.inl g
    · have := (hv.b g1).1
      refine Or.inr ⟨?_, ?_, ?_, g2, g3⟩ <;> (rw [g2]; unfold bO; omega)
  have w : ∀ y, wu W a b v 0 y = W 0 y := fun y => wu_o (by omega)
  have w10 : ∀ y, wu W a b v 10 y = W 10 y := fun y => wu_o (by omega)
  refine ⟨?_, ?_, ?_, ?_, ?_⟩
  · obtain ⟨h1, h2, h3, h4, h5⟩ := h.1
    exact ⟨one_line h1 (by omega), one_line h2 (by omega), one_line h3 (by omega), one_line h4 (by omega), one_line h5 (by omega)⟩
  · intro s hs
    rw [w] at hs
    obtain ⟨h1, h2⟩ := h.s hs
    exact ⟨one_line h1 (by omega), one_line h2 (by omega)⟩
  · intro m hm
    rw [w] at hm
    obtain ⟨h1, h2, h3, h4, h5, h6, h7, h8⟩ := h.m hm
    exact ⟨h1, h2, one_line h3 (by omega), one_line h4 (by omega), one_line h5 (by omega), one_line h6 (by omega), one_line h7 (by omega), one_line h8 (by omega)⟩
  · intro k hk
    rw [w] at hk
    have hb := (hv.b hk).1
    obtain ⟨h1, h2, h3, h4, h5, h6, h7, h8, h9⟩ := h.b hk
    have eb : bO (wu W a b v) k = bO W k := bO_cg (w10 k)
    have e0 : bO W k = 72 + 8 * k + W 10 k := rfl
    have hkb : ¬ k = b ∨ bO W k = bO W b := by
      by_cases e : k = b
      · exact Or.inr (by rw [e])
      · exact Or.inl e
    rw [eb]
    exact ⟨h1, h2, one_line h3 (by omega), one_line h4 (by omega), one_line h5 (by omega), one_line h6 (by omega), one_line h7 (by omega), one_line h8 (by omega), one_line h9 (by omega)⟩
  · intro i hi
    rw [w] at hi
    exact one_line (h.o hi) (by omega)
theorem MR.one {W : Vw} {ρ : St} (h : MR W ρ) {a b C : Nat} (v : Nat) (hC : (a = 4 ∧ C = 7) ∨ (a = 7 ∧ C = 10) ∨ (a = 8 ∧ C = 11) ∨ (a = 14 ∧ C = 19)) (h34 : gI ρ 0 34 = -1) (hm9 : W 0 3 ≤ 10) : MR (wu W a b v) (uI ρ C b (nI v)) := by
  have w : ∀ y, wu W a b v 0 y = W 0 y := fun y => wu_o (by omega)
  have q : ∀ j, gI (uI ρ C b (nI v)) 0 j = gI ρ 0 j := fun j => gI_o (by omega)
  have q12 : ∀ j, gI (uI ρ C b (nI v)) 12 j = gI ρ 12 j := fun j => gI_o (by omega)
  have q16 : ∀ j, gI (uI ρ C b (nI v)) 16 j = gI ρ 16 j := fun j => gI_o (by omega)
  have q17 : ∀ j, gI (uI ρ C b (nI v)) 17 j = gI ρ 17 j := fun j => gI_o (by omega)
  have w15 : ∀ y, wu W a b v 15 y = W 15 y := fun y => wu_o (by omega)
  have w16 : ∀ y, wu W a b v 16 y = W 16 y := fun y => wu_o (by omega)
  refine ⟨?_, ?_, ?_, ?_⟩
  · rw [w, w, w, w, w, q, q, q, q, q]
    exact h.1
  · intro s hs
    rw [w] at hs
    obtain ⟨h1, h2⟩ := h.s hs
    exact ⟨one_line h1 (by omega), one_line h2 (by omega)⟩
  · intro m hm
    rw [w] at hm
    obtain ⟨m1, m2, m3, ⟨m4, m4'⟩, m5, m6⟩ := h.m hm
    have ne : ¬ nI m = gI ρ 0 34 := by
      rw [h34]
      intro e
      have := congrArg Int32.toInt e
      rw [fb_nI (by omega)] at this
      have h1 : (-1 : Int32).toInt = -1 := by decide
      omega
    rw [q]
    exact ⟨one_line m1 (by omega), one_line m2 (by omega), one_line m3 (by omega), ⟨fun _ => one_line (m4 ne) (by omega), fun z => absurd z ne⟩, one_line m5 (by omega), one_line m6 (by omega)⟩
  · intro k hk
    rw [w] at hk
    obtain ⟨r1, r2, r3, r4, r5, r6, r7⟩ := h.b hk
    rw [q, q, w15, w16, q16, q17]
    simp only [q12]
    exact ⟨one_line r1 (by omega), one_line r2 (by omega), one_line r3 (by omega), one_line r4 (by omega), one_line r5 (by omega), r6, r7⟩
theorem bI_n (n : Nat) (h : n ≤ 1) : bI (decide (n = 1)) = nI n := by
  have : n = 0 ∨ n = 1 := by omega
  rcases this with rfl | rfl <;> rfl
/-- set: one of a machine's numbers -/
theorem pc_set_up {W : Vw} {ids : List Nat} {σ ρ : St} (h : RW W ids σ ρ) {m w v : Nat} (hm : m < W 0 3) (hw : (w = 0 ∧ v ≤ 999) ∨ (w = 3 ∧ v ≤ 24) ∨ (w = 4 ∧ v ≤ 1)) : RW (wu W (4 + w) m v) ids (uI σ (60 + m) (if w = 0 then 3 else w + 1) (nI v)) (uI ρ (7 + w) m (nI v)) := by
  have hv := h.iv
  have hc := hv.c
  refine h.mill ?_ ?_ (h.mx.one hv v ?_) (h.mr.one v ?_ h.dr.2.2.2.2 (by omega)) ?_ ?_ ?_ (fun _ _ => rfl)
  · obtain ⟨h1, h2, h3, h4, h5, h6, h7, h8⟩ := hv
    refine ⟨?_, ?_, ?_, ?_, ?_, ?_, ?_, ?_⟩
    · rw [wu_o (by omega), wu_o (by omega), wu_o (by omega), wu_o (by omega), wu_o (by omega)]; exact h1
    · intro s hs
      rw [wu_o (by omega)] at hs
      rw [wu_o (by omega), wu_o (by omega)]
      exact h2 s hs
    · intro j hj
      rw [wu_o (by omega)] at hj
      obtain ⟨g1, g2, g3, g4, g5, g6⟩ := h3 j hj
      rw [wu_o (by omega), wu_o (a := 4 + w) (x := 0) (by omega), wu_o (a := 4 + w) (x := 5) (by omega), wu_o (a := 4 + w) (x := 6) (by omega)]
      refine ⟨g1, ?_, g3, g4, ?_, ?_⟩ <;> (unfold wu; split <;> omega)
    · intro k hk
      rw [wu_o (by omega)] at hk
      rw [wu_o (by omega), wu_o (by omega), wu_o (by omega), wu_o (by omega), wu_o (by omega), wu_o (by omega), wu_o (by omega), wu_o (by omega)]
      exact h4 k hk
    · intro j k hj hk
      rw [wu_o (by omega)] at hj hk
      rw [wu_o (by omega), wu_o (by omega)]
      exact h5 j k hj hk
    · intro i hi
      rw [wu_o (by omega)] at hi
      rw [wu_o (by omega), wu_o (by omega)]
      exact h6 i hi
    · intro k hk
      rw [wu_o (by omega)] at hk
      obtain ⟨i, hi, e⟩ := h7 k hk
      refine ⟨i, ?_, ?_⟩ <;> rw [wu_o (by omega)] <;> assumption
    · intro i j hi hj e
      rw [wu_o (by omega)] at hi hj
      rw [wu_o (by omega), wu_o (a := 4 + w) (x := 17) (by omega), wu_o (by omega)] at e
      obtain ⟨i', hi', e'⟩ := h8 i j hi hj e
      refine ⟨i', hi', ?_⟩
      rw [wu_o (by omega)]
      exact e'
  · obtain ⟨d1, d2, d3, d4, d5, d6, d7, d8⟩ := h.dv
    refine ⟨?_, ?_, ?_, ?_, ?_, ?_, ?_, ?_⟩
    · rw [wu_o (by omega), wu_o (by omega), wu_o (by omega), wu_o (by omega), wu_o (by omega), wu_o (by omega), wu_o (by omega), wu_o (by omega), wu_o (by omega)]; exact d1
    · rw [wu_o (by omega), wu_o (by omega), wu_o (by omega), wu_o (by omega), wu_o (by omega)]; exact d2
    · intro d hd
      rw [wu_o (by omega)] at hd
      rw [wu_o (by omega)]
      exact d3 d hd
    · intro k hk
      rw [wu_o (by omega)] at hk
      have e5 : wu W (4 + w) m v 0 5 = W 0 5 := wu_o (by omega)
      have e18 : wu W (4 + w) m v 18 k = W 18 k := wu_o (by omega)
      have e19 : wu W (4 + w) m v 19 k = W 19 k := wu_o (by omega)
      have e15 : wu W (4 + w) m v 15 k = W 15 k := wu_o (by omega)
      have e16 : wu W (4 + w) m v 16 k = W 16 k := wu_o (by omega)
      rw [e5, e18, e19, e15, e16, wu_o (by omega), wu_o (by omega)]
      exact d4 k hk
    · intro j hj
      rw [wu_o (by omega)] at hj
      have := d5 j hj
      unfold wu
      split <;> omega
    · intro k hk
      rw [wu_o (by omega)] at hk
      rw [wu_o (by omega), wu_o (by omega), wu_o (by omega), wu_o (by omega)]
      exact d6 k hk
    · intro k hk
      rw [wu_o (by omega)] at hk
      rw [wu_o (by omega), wu_o (by omega)]
      exact d7 k hk
    · intro k hk
      rw [wu_o (by omega)] at hk
      rw [wu_o (by omega)]
      exact d8 k hk
  · left
    refine ⟨hm, rfl, ?_⟩
    rcases hw with ⟨rfl, -⟩ | ⟨rfl, -⟩ | ⟨rfl, -⟩ <;> simp
  · omega
  · intro a b hc; exact wu_o (by unfold cD cI cT at hc; omega)
  · intro c k hk
    refine gI_o ?_
    unfold kD kI kT at hk
    rcases hw with ⟨rfl, -⟩ | ⟨rfl, -⟩ | ⟨rfl, -⟩ <;> simp <;> omega
  · intro c k hk; exact gI_o (by unfold qD qI qT at hk; omega)
theorem pc_set {ids : List Nat} {σ ρ : St} (a1 : Int32) (a2 : Int32) (a3 : Int32) (h : Rel ids σ ρ) : wX11_set ids a1 a2 a3 σ (fun r σ1 => wX12_set a1 a2 a3 ρ (fun r2 ρ1 => r = r2 ∧ Rel ids σ1 ρ1)) := by
  obtain ⟨-, W, h⟩ := h
  have hv := h.iv
  have hc := hv.c
  have bad : ∀ P : Int32 → St → Prop, P (-2) ρ → (wi a1.toInt 0 ((W 0 3 : Int) - 1) = false ∨ wi a2.toInt 0 2 = false ∨ (a2 = 0 ∧ wi a3.toInt 0 999 = false) ∨ (a2 = 1 ∧ wi a3.toInt 0 24 = false) ∨ (a2 = 2 ∧ wi a3.toInt 0 1 = false)) → wX12_set a1 a2 a3 ρ P := by
    intro P hP c
    refine sR_isMachine hv h.mr a1 (bI_d (fun b => hP) (fun b => ?_))
    refine sR_inI 0 2 rfl rfl (bI_d (fun b2 => hP) (fun b2 => ?_))
    rcases c with c | c | ⟨rfl, c⟩ | ⟨rfl, c⟩ | ⟨rfl, c⟩
    · rw [b] at c; exact absurd c (by decide)
    · rw [b2] at c; exact absurd c (by decide)
    · refine dn rfl (sR_inI 0 999 rfl rfl ?_)
      rw [c]
      exact dn rfl hP
    · refine dm (by decide) (dn rfl (sR_inI 0 24 rfl rfl ?_))
      rw [c]
      exact dn rfl hP
    · refine dm (by decide) (dm (by decide) (sR_inI 0 1 rfl rfl ?_))
      rw [c]
      exact dn rfl hP
  refine sX_isMachine hv h.mx a1 (bI_e (fun b => ?_) (fun b => ?_))
  · exact bad _ ⟨rfl, h.rel⟩ (Or.inl b)
  · obtain ⟨m, hm, rfl⟩ := wi_n (by omega) b
    obtain ⟨x1, x2, x3, x4, x5, x6, x7, x8⟩ := h.mx.m hm
    obtain ⟨m1, m2, m3, ⟨m4, m4'⟩, m5, m6⟩ := h.mr.m hm
    have hmm := hv.m hm
    have ne : ¬ nI m = gI ρ 0 34 := by
      rw [h.dr.2.2.2.2]
      intro e
      have := congrArg Int32.toInt e
      rw [fb_nI (by omega)] at this
      have h1 : (-1 : Int32).toInt = -1 := by decide
      omega
    have m4 := m4 ne
    have p84 : ¬ a2 = 0 → ¬ a2 = 1 → wX11_set_84 ids (fun r σ1 => wX12_set (nI m) a2 a3 ρ (fun r2 ρ1 => r = r2 ∧ Rel ids σ1 ρ1)) a2 a3 (60 + m) σ := by
      intro n0 n1
      by_cases n2 : a2 = 2
      · subst n2
        refine dn rfl (sX_within 0 1 rfl rfl (bI_d (fun b3 => ?_) (fun b3 => ?_)))
        · exact bad _ ⟨rfl, h.rel⟩ (Or.inr (Or.inr (Or.inr (Or.inr ⟨rfl, b3⟩))))
        · obtain ⟨v, hv2, rfl⟩ := wi_k (N := 1) b3
          rw [x8]
          refine sX_asBitN hmm.2.2.2.2.2 ?_
          have fin : wX11_set_120 ids (fun r σ1 => wX12_set (nI m) 2 (nI v) ρ (fun r2 ρ1 => r = r2 ∧ Rel ids σ1 ρ1)) (nI (W 8 m)) (60 + m) (nI v) σ := by
            refine ⟨?_, ?_⟩
            · have : v = 0 ∨ v = 1 := by omega
              rcases this with rfl | rfl
              · exact isB_0
              · exact isB_1
            · rintro σ2 rfl
              refine sR_isMachine hv h.mr _ ?_
              rw [b]
              refine df (by decide) (sR_inI 0 2 rfl rfl (df (by decide) (dm (by decide) (dm (by decide) (sR_inI 0 1 rfl rfl ?_)))))
              rw [b3]
              refine dm (by decide) (dm (by decide) (dm (by decide) ⟨vin (by omega) (by omega), dm (by decide) (dm (by decide) (dn rfl ⟨vin (by omega) (by omega), ?_⟩))⟩))
              rintro ρ3 rfl
              rw [nI_clamp (by omega)]
              exact ⟨m6.symm, (pc_set_up h hm (w := 4) (Or.inr (Or.inr ⟨rfl, hv2⟩))).rel⟩
          have : v = 0 ∨ v = 1 := by omega
          rcases this with rfl | rfl
          · exact dm (by decide) fin
          · exact dn rfl fin
      · refine dm n2 (bad _ ⟨rfl, h.rel⟩ (Or.inr (Or.inl ?_)))
        cases b2 : wi a2.toInt 0 2
        · rfl
        · obtain ⟨j, hj, e⟩ := wi_k (N := 2) b2
          have : j = 0 ∨ j = 1 ∨ j = 2 := by omega
          rcases this with rfl | rfl | rfl
          · exact absurd e n0
          · exact absurd e n1
          · exact absurd e n2
    have p53 : ¬ a2 = 0 → wX11_set_53 ids (fun r σ1 => wX12_set (nI m) a2 a3 ρ (fun r2 ρ1 => r = r2 ∧ Rel ids σ1 ρ1)) a2 a3 (60 + m) σ := by
      intro n0
      by_cases n1 : a2 = 1
      · subst n1
        refine dn rfl (sX_within 0 24 rfl rfl (bI_d (fun b3 => ?_) (fun b3 => ?_)))
        · exact dm (by decide) (bad _ ⟨rfl, h.rel⟩ (Or.inr (Or.inr (Or.inr (Or.inl ⟨rfl, b3⟩)))))
        · obtain ⟨v, hv2, rfl⟩ := wi_k (N := 24) b3
          rintro w rfl σ15 rfl
          refine sR_isMachine hv h.mr _ ?_
          rw [b]
          refine df (by decide) (sR_inI 0 2 rfl rfl (df (by decide) (dm (by decide) (dn rfl (sR_inI 0 24 rfl rfl ?_)))))
          rw [b3]
          refine dm (by decide) (dm (by decide) (dn rfl ⟨vin (by omega) (by omega), dm (by decide) (dn rfl ⟨vin (by omega) (by omega), ?_⟩)⟩))
          rintro ρ3 rfl
          rw [nI_clamp (by omega)]
          refine dm (by decide) ⟨?_, ?_⟩
          · exact x7.trans m5.symm
          · exact (pc_set_up h hm (w := 3) (Or.inr (Or.inl ⟨rfl, hv2⟩))).rel
      · exact dm n1 (p84 n0 n1)
    refine ⟨vin (by omega) (by omega), 60 + m, by rw [nI_clamp (by omega)]; exact x1, h.mx.okM hv hm, p53, fun n0 => ?_⟩
    subst n0
    refine sX_within 0 999 rfl rfl (bI_d (fun b3 => ?_) (fun b3 => ?_))
    · refine dm (by decide) (dm (by decide) (bad _ ⟨rfl, h.rel⟩ (Or.inr (Or.inr (Or.inl ⟨rfl, b3⟩)))))
    · obtain ⟨v, hv2, rfl⟩ := wi_k (N := 999) b3
      rintro w rfl σ15 rfl
      refine sR_isMachine hv h.mr _ ?_
      rw [b]
      refine df (by decide) (sR_inI 0 2 rfl rfl (df (by decide) (dn rfl (sR_inI 0 999 rfl rfl ?_))))
      rw [b3]
      refine dm (by decide) (dn rfl ⟨vin (by omega) (by omega), dn rfl ⟨vin (by omega) (by omega), ?_⟩⟩)
      rintro ρ3 rfl
      rw [nI_clamp (by omega)]
      refine dm (by decide) (dm (by decide) ⟨?_, ?_⟩)
      · exact x6.trans m4.symm
      · exact (pc_set_up h hm (w := 0) (Or.inl ⟨rfl, hv2⟩)).rel
theorem Dv.on {W : Vw} (h : Dv W) (k v : Nat) : Dv (wu W 14 k v) := h
theorem pc_throwsOn {ids : List Nat} {σ ρ : St} (a1 : Int32) (a2 : Int32) (h : Rel ids σ ρ) : wX11_throwsOn ids a1 a2 σ (fun r σ1 => wX12_throwsOn a1 a2 ρ (fun r2 ρ1 => r = r2 ∧ Rel ids σ1 ρ1)) := by
  obtain ⟨-, W, h⟩ := h
  have hv := h.iv
  have hc := hv.c
  refine sX_isBelt hv h.mx a1 (bI_d (fun b => ?_) (fun b => ?_))
  · refine sR_isBelt hv h.mr a1 ?_
    rw [b]
    exact dt rfl ⟨rfl, h.rel⟩
  · obtain ⟨k, hk, rfl⟩ := wi_n (by omega) b
    have hb := hv.b hk
    have hr := bO_r hv hk
    obtain ⟨br, -, -, -, -, -, -, -, b8⟩ := h.mx.b hk
    refine sX_within 0 1 rfl rfl (bI_e (fun b2 => ?_) (fun b2 => ?_))
    · refine sR_isBelt hv h.mr _ ?_
      rw [b]
      refine df (by decide) (sR_inI 0 1 rfl rfl ?_)
      rw [b2]
      exact dn rfl ⟨rfl, h.rel⟩
    · obtain ⟨v, hv2, rfl⟩ := wi_k (N := 1) b2
      have hok := h.mx.okB hv hk
      refine ⟨vin (by omega) (by omega), bO W k, by rw [nI_clamp (by omega)]; exact br, hok, ?_⟩
      rw [b8]
      refine sX_asBitN hb.2.2.2.2.2.2.1 ⟨bO W k, by rw [nI_clamp (by omega)]; exact br, hok, ?_⟩
      have fin : wX11_throwsOn_55 ids (fun r σ1 => wX12_throwsOn (nI k) (nI v) ρ (fun r2 ρ1 => r = r2 ∧ Rel ids σ1 ρ1)) (nI (W 14 k)) (bO W k) (nI v) σ := by
        refine ⟨?_, ?_⟩
        · have : v = 0 ∨ v = 1 := by omega
          rcases this with rfl | rfl
          · exact isB_0
          · exact isB_1
        · rintro σ2 rfl
          refine sR_isBelt hv h.mr _ ?_
          rw [b]
          refine df (by decide) (sR_inI 0 1 rfl rfl ?_)
          rw [b2]
          refine dm (by decide) ⟨vin (by omega) (by omega), ?_⟩
          rw [nI_clamp (by omega)]
          rintro w rfl ρ3 rfl
          refine ⟨((h.mr.b hk).2.2.2.2.1).symm, (h.mill (hv.on k hv2) (h.dv.on k v) (h.mx.on hv hk v) (h.mr.on k v) ?_ ?_ ?_ (fun _ _ => rfl)).rel⟩
          · intro a b hc; exact wu_o (by unfold cD cI cT at hc; omega)
          · intro c j hj; exact gI_o (by unfold kD kI kT at hj; omega)
          · intro c j hj; exact gI_o (by unfold qD qI qT at hj; omega)
      have : v = 0 ∨ v = 1 := by omega
      rcases this with rfl | rfl
      · exact dm (by decide) fin
      · exact dn rfl fin
