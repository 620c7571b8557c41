/-! PURE: told -/
def tol (W : Vw) (k : Nat) (L0 : List Int32) (j : Nat) : Int32 := if j = 0 then nI (W 10 k) else if j = 1 then nI (W 11 k) else if j = 2 then nI (W 12 k) else if j = 3 then nI (W 18 k) else if j = 4 then nI (W 19 k) else if j = 5 then nI (W 14 k) else if j = 6 then iI (wy W k) else if j = 7 then nI (wr W k) else if j = 8 then nI (lgt W k) else if j = 9 then nI (pl W k) else if j = 10 then bI (slp W k) else we W k L0
theorem sX_told {W : Vw} {ids : List Nat} {σ ρ : St} (h : RW W ids σ ρ) {t : Nat} {L0 L1 L2 : List Int32} (hg : TG t L0 L1 L2 ids σ) (a1 a2 : Int32) {post : Int32 → St → Prop} (hn : wi a1.toInt 0 ((W 0 4 : Int) - 1) = false → post (-5) σ) (hy : ∀ k, k < W 0 4 → a1 = nI k → (∀ j, j < 12 → a2 = nI j → ∀ τ, EqX σ τ → post (tol W k L0 j) τ) ∧ ((∀ j, j < 12 → ¬ a2 = nI j) → ∀ τ, EqX σ τ → post (-5) τ)) : wX11_told ids a1 a2 σ post := by
  have hv := h.iv
  have hc := hv.c
  refine sX_isBelt hv h.mx a1 (bI_e (fun b => hn b) (fun b => ?_))
  obtain ⟨k, hk, rfl⟩ := wi_n (by omega) b
  obtain ⟨ha, hz⟩ := hy k hk rfl
  refine sX_spin hv h.mx (fun τ e hS => ⟨vin (by omega) (by omega), bO W k, ?_, ?_, ?_⟩)
  · rw [nI_clamp (by omega)]; exact (hS.1.b hk).1
  · exact hS.1.okB hv hk
  have hd := (h.eq e (EqR.rf ρ)).dx
  obtain ⟨-, -, b0, b1, b2, b3, b6, b7, b8⟩ := hS.1.b hk
  obtain ⟨d4, d5⟩ := hd.2.2.1 k hk
  have hb := hv.b hk
  have A : ∀ j, j < 12 → a2 = nI j → post (tol W k L0 j) τ := fun j hj ea => ha j hj ea τ e
  rintro _ rfl
  rw [b0, b1, b2, d4, d5, b8]
  refine ⟨fun z => A 0 (by decide) z, fun z => A 1 (by decide) z, fun z => A 2 (by decide) z, fun z => A 3 (by decide) z, fun z => A 4 (by decide) z, fun z => sX_asBitN hb.2.2.2.2.2.2.1 (A 5 (by decide) z), fun z => sB_way hv hk (A 6 (by decide) z), fun z => sB_wrap hv hS.1 hk (A 7 (by decide) z), fun z => sX_apart hv hS.1 hk (sB_length hv hS.1 hk (A 8 (by decide) z)), fun z => sX_pull hv hS hk (A 9 (by decide) z), fun z => sX_slips hv hS hk (sX_asBit _ (A 10 (by decide) z)), fun z => sX_wear hv hS hk (hg.x e) (fun υ eu => ha 11 (by decide) z υ (e.tr eu.1)), fun z => hz (fun j hj ea => ?_) τ e⟩
  obtain ⟨z0, z1, z2, z3, z4, z5, z6, z7, z8, z9, z10, z11⟩ := z
  have : j = 0 ∨ j = 1 ∨ j = 2 ∨ j = 3 ∨ j = 4 ∨ j = 5 ∨ j = 6 ∨ j = 7 ∨ j = 8 ∨ j = 9 ∨ j = 10 ∨ j = 11 := by omega
  rcases this with rfl | rfl | rfl | rfl | rfl | rfl | rfl | rfl | rfl | rfl | rfl | rfl
  · exact z0 ea
  · exact z1 ea
  · exact z2 ea
  · exact z3 ea
  · exact z4 ea
  · exact z5 ea
  · exact z6 ea
  · exact z7 ea
  · exact z8 ea
  · exact z9 ea
  · exact z10 ea
  · exact z11 ea
theorem sR_told {W : Vw} {ids : List Nat} {σ ρ : St} (h : RW W ids σ ρ) {b : By} {n t : Nat} {L0 L1 L2 : List Int32} (hg : TH b n t L0 L1 L2 ρ) {k : Nat} (hk : k < W 0 4) (a2 : Int32) {post : Int32 → St → Prop} (ha : ∀ j, j < 12 → a2 = nI j → ∀ τ, EqR ρ τ → post (tol W k L0 j) τ) (hz : (∀ j, j < 12 → ¬ a2 = nI j) → ∀ τ, EqR ρ τ → post (-5) τ) : wX12_told (nI k) a2 ρ post := by
  have hv := h.iv
  have hc := hv.c
  have hb := hv.b hk
  refine sR_isBelt hv h.mr _ ?_
  rw [wi_t (by omega) (by omega) (by omega)]
  refine dm (by decide) (sR_lays hv h.mr (fun τ e hS => ?_))
  have hd := (h.eq (EqX.rf σ) e).dr
  obtain ⟨r13, r14, r15, r18, r19, -⟩ := hS.1.b hk
  obtain ⟨d16, d17⟩ := hd.2.2.1 k hk
  have A : ∀ j, j < 12 → a2 = nI j → post (tol W k L0 j) τ := fun j hj ea => ha j hj ea τ e
  have V : vp_in (nI k) 7 := vin (by omega) (by omega)
  have e1 : nI (W 10 k) = (1 : Int32) ↔ W 10 k = 1 := nI_eq (b := 1) (by omega) (by omega)
  rintro _ rfl
  rw [nI_clamp (by omega), r13, r14, r15, d16, d17, r19, e1]
  refine ⟨fun z => ⟨V, A 0 (by decide) z⟩, fun z => ⟨V, A 1 (by decide) z⟩, fun z => ⟨V, A 2 (by decide) z⟩, fun z => ⟨V, A 3 (by decide) z⟩, fun z => ⟨V, A 4 (by decide) z⟩, fun z => ⟨V, A 5 (by decide) z⟩, fun z => ⟨V, ?_⟩, fun z => sR_wrapOf hv hS.1 hk (A 7 (by decide) z), fun z => sR_longOf hv hS.1 hk (A 8 (by decide) z), fun z => sR_pullOf hv hS hk (A 9 (by decide) z), fun z => sR_slips hv hS hk ?_, fun z => sR_wear hv hS hk (hg.x e) (fun υ eu => ha 11 (by decide) z υ (e.tr eu.x)), fun z => hz (fun j hj ea => ?_) τ e⟩
  · have A6 := A 6 (by decide) z
    have e6 : tol W k L0 6 = iI (wy W k) := rfl
    rw [e6] at A6
    unfold wy at A6
    refine ⟨fun c => ?_, fun c => ?_⟩
    · rw [if_neg c] at A6; exact A6
    · rw [if_pos c] at A6; exact A6
  · have A10 := A 10 (by decide) z
    have e10 : tol W k L0 10 = bI (slp W k) := rfl
    rw [e10] at A10
    cases hs : slp W k with
    | false => rw [hs] at A10; exact dt rfl A10
    | true => rw [hs] at A10; exact df (by decide) A10
  · obtain ⟨z0, z1, z2, z3, z4, z5, z6, z7, z8, z9, z10, z11⟩ := z
    have : j = 0 ∨ j = 1 ∨ j = 2 ∨ j = 3 ∨ j = 4 ∨ j = 5 ∨ j = 6 ∨ j = 7 ∨ j = 8 ∨ j = 9 ∨ j = 10 ∨ j = 11 := by omega
    rcases this with rfl | rfl | rfl | rfl | rfl | rfl | rfl | rfl | rfl | rfl | rfl | rfl
    · exact z0 ea
    · exact z1 ea
    · exact z2 ea
    · exact z3 ea
    · exact z4 ea
    · exact z5 ea
    · exact z6 ea
    · exact z7 ea
    · exact z8 ea
    · exact z9 ea
    · exact z10 ea
    · exact z11 ea
theorem pc_told {ids : List Nat} {σ ρ : St} (a1 : Int32) (a2 : Int32) (h : Rel ids σ ρ) : wX11_told ids a1 a2 σ (fun r σ1 => wX12_told a1 a2 ρ (fun r2 ρ1 => r = r2 ∧ Rel ids σ1 ρ1)) := by
  obtain ⟨-, W, h⟩ := h
  have hv := h.iv
  obtain ⟨b, n, L0, L1, L2, hg, hh⟩ := h.tg
  refine sX_told h hg a1 a2 (fun z => ?_) (fun k hk ek => ?_)
  · refine sR_isBelt hv h.mr a1 ?_
    rw [z]
    exact dn rfl ⟨rfl, h.rel⟩
  · subst ek
    refine ⟨fun j hj ea τ e => sR_told h hh hk a2 (fun i hi ei υ eu => ?_) (fun z => absurd ea (z j hj)), fun z τ e => sR_told h hh hk a2 (fun i hi ei => absurd ei (z i hi)) (fun _ υ eu => ⟨rfl, (h.eq e eu).rel⟩)⟩
    have : j = i := nI_inj (by omega) (by omega) (ea.symm.trans ei)
    subst this
    exact ⟨rfl, (h.eq e eu).rel⟩
