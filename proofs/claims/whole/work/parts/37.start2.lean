/-! PURE: start -/
def RS (W : Vw) (ρ : St) (S : Nat → Bool) (τ : St) : Prop := MR (wo W S) τ ∧ (∀ k, k < W 0 4 → gI τ 25 k = nI (W 14 k)) ∧ ∀ c k, ¬ c = 25 → ¬ (c = 19 ∧ k < W 0 4) → ¬ c = 22 → gI τ c k = gI ρ c k
theorem RS.e22 {W : Vw} {ρ τ υ : St} {S : Nat → Bool} (h : RS W ρ S τ) (e : Eq22 τ υ) : RS W ρ S υ := ⟨h.1.eq e.x, fun k hk => (e 25 k (by omega)).trans (h.2.1 k hk), fun c k g1 g2 g3 => (e c k g3).trans (h.2.2 c k g1 g2 g3)⟩
theorem RS.pw {W : Vw} {ρ τ : St} {S : Nat → Bool} (h : RS W ρ S τ) : gI τ 0 11 = nI (W 0 2) := h.1.pw
theorem wo_MR {W : Vw} {ρ τ : St} (hR : MR W ρ) {S : Nat → Bool} (t1 : ∀ c k, ¬ c = 25 → ¬ (c = 19 ∧ k < W 0 4) → ¬ c = 22 → gI τ c k = gI ρ c k) (t2 : ∀ k, k < W 0 4 → gI τ 19 k = nI (if S k = true then 1 else 0)) : MR (wo W S) τ := by
  have q : ∀ c k, ¬ c = 25 → ¬ c = 19 → ¬ c = 22 → gI τ c k = gI ρ c k := fun c k g1 g2 g3 => t1 c k g1 (fun z => g2 z.1) g3
  have w : ∀ x y, ¬ x = 14 → wo W S x y = W x y := fun x y h => wo_f h y
  refine ⟨?_, ?_, ?_, ?_⟩
  · rw [w 0 0 (by omega), w 0 1 (by omega), w 0 2 (by omega), w 0 3 (by omega), w 0 4 (by omega), q 0 9 (by omega) (by omega) (by omega), q 0 18 (by omega) (by omega) (by omega), q 0 28 (by omega) (by omega) (by omega), q 0 10 (by omega) (by omega) (by omega), q 0 11 (by omega) (by omega) (by omega)]
    exact hR.1
  · intro s hs
    rw [w 0 0 (by omega)] at hs
    rw [w 1 s (by omega), w 2 s (by omega), q 4 s (by omega) (by omega) (by omega), q 5 s (by omega) (by omega) (by omega)]
    exact hR.s hs
  · intro m hm
    rw [w 0 3 (by omega)] at hm
    rw [w 3 m (by omega), w 4 m (by omega), w 5 m (by omega), w 6 m (by omega), w 7 m (by omega), w 8 m (by omega), q 6 m (by omega) (by omega) (by omega), q 8 m (by omega) (by omega) (by omega), q 9 m (by omega) (by omega) (by omega), q 0 34 (by omega) (by omega) (by omega), q 0 35 (by omega) (by omega) (by omega), q 7 m (by omega) (by omega) (by omega), q 10 m (by omega) (by omega) (by omega), q 11 m (by omega) (by omega) (by omega)]
    exact hR.m hm
  · intro k hk
    rw [w 0 4 (by omega)] at hk
    obtain ⟨r1, r2, r3, r4, r5, r6⟩ := hR.b hk
    have q12 : ∀ x, gI τ 12 x = gI ρ 12 x := fun x => q _ _ (by omega) (by omega) (by omega)
    have e14 : wo W S 14 k = (if S k = true then 1 else 0) := if_pos rfl
    rw [w 10 k (by omega), w 11 k (by omega), w 12 k (by omega), w 13 k (by omega), w 15 k (by omega), w 16 k (by omega), e14, t2 k hk, q 13 k (by omega) (by omega) (by omega), q 14 k (by omega) (by omega) (by omega), q 15 k (by omega) (by omega) (by omega), q 18 k (by omega) (by omega) (by omega), q 0 29 (by omega) (by omega) (by omega), q 0 30 (by omega) (by omega) (by omega), q 16 k (by omega) (by omega) (by omega), q 17 k (by omega) (by omega) (by omega)]
    simp only [q12]
    exact ⟨r1, r2, r3, r4, rfl, r6⟩
theorem sR_nextOn {W : Vw} {ρ τ : St} (hv : Iv W) {S : Nat → Bool} (hC : Cl W S) (hR : RS W ρ S τ) (hS : SR (wo W S) τ) {post : Int32 → St → Prop} (h : post (fI (W 0 4) (gp W S)) τ) : wX12_nextOn τ post := by
  have hc := hv.c
  have hvS := wo_iv hv S
  have e1 : ∀ x : Nat, x ≤ 1 → (nI x = (1 : Int32) ↔ x = 1) := fun x hx => nI_eq (b := 1) (by omega) (by omega)
  have eb : gI τ 0 28 = nI (W 0 4) := by
    have := hR.1.bs
    rw [wo_f (by omega)] at this
    exact this
  refine lpc1 (wX12_nextOn_2 post) (W 0 4) (by omega) (fun i υ => υ = τ ∧ ∀ j, j < i → gp W S j = false) ?_ ?_ τ ⟨rfl, fun j hj => absurd hj (Nat.not_lt_zero _)⟩
  · rintro n υ ⟨rfl, h0⟩
    rw [wX12_nextOn_2_s]
    refine dt (by rw [eb]; exact nI_le (Nat.le_refl _) (by omega)) ?_
    rw [← fI_no h0]
    exact h
  · rintro n i υ hi ⟨rfl, h0⟩ kk
    rw [wX12_nextOn_2_s]
    have hb := hv.b hi
    have hi' : i < wo W S 0 4 := by rw [wo_f (by omega)]; exact hi
    obtain ⟨r1, r2, r3, r4, r5, r6⟩ := hR.1.b hi'
    rw [wo_f (by omega)] at r2
    have r5' : gI υ 19 i = nI (if S i = true then 1 else 0) := r5
    have no : gp W S i = false → wX12_nextOn_45 (wX12_nextOn_2 post n) post (nI i) υ := by
      rintro e v rfl
      rw [nI_1]
      exact kk _ ⟨rfl, all_s h0 e⟩
    have ng : ¬ (W 14 i = 1 ∧ S i = false ∧ ts W S (W 11 i) = true) → gp W S i = false := fun c => by
      cases g : gp W S i
      · rfl
      · exact absurd (gp_t.mp g) c
    refine df (by rw [eb]; exact nI_ge hi (by omega)) ⟨vin (by omega) (by omega), ?_⟩
    rw [nI_clamp (by omega), hR.2.1 i hi, e1 _ hb.2.2.2.2.2.2.1, r5', r2]
    by_cases on : W 14 i = 1
    · refine dn on ?_
      cases si : S i
      · refine dn rfl ⟨vin (by omega) (by omega), ?_⟩
        have h7 := rk_7 hv (W 11 i)
        have t1 := (T_ts hv hC 8 (W 11 i) (by omega)).1
        rw [nI_clamp (by omega), sR_ways hvS hS (by omega)]
        by_cases z : (T (wo W S) (W 11 i)).1 = 0
        · refine dt z (no (ng (fun y => ?_)))
          have := t1.mpr y.2.2
          omega
        · refine df z ?_
          rw [← fI_at hi h0 (gp_t.mpr ⟨on, si, t1.mp (by omega)⟩)]
          exact h
      · refine dm (by decide) (no (ng (fun y => ?_)))
        rw [si] at y
        exact absurd y.2.1 (by decide)
    · exact dm on (no (ng (fun y => on y.1)))
/-- what start answers -/
def stA (W : Vw) (a : Int32) : Int32 := if nI (sm W (W 0 3) (mA W)) ≤ nI (W 0 2) then (if a = 0 then frd W (ct (W 0 4) (bn W)) (fun _ => false) 0 else if frd W (ct (W 0 4) (bn W)) (fun _ => false) 0 = -1 then -1 else nI (mxj W (W 0 4) (bn W))) else -1
theorem sX_start {W : Vw} {ids : List Nat} {σ : St} (hv : Iv W) (hM : MX W ids σ) (a : Int32) {post : Int32 → St → Prop} (h0 : wi a.toInt 0 1 = false → post (-2) σ) (h : wi a.toInt 0 1 = true → ∀ τ, EqX σ τ → post (stA W a) τ) : wX11_start ids a σ post := by
  refine sX_within 0 1 rfl rfl (bI_e (fun b => h0 b) (fun b => ?_))
  refine sX_spin hv hM (fun τ he hS => sX_loadedInAll hv hS ?_)
  have hp := h b τ he
  unfold stA at hp
  rw [hS.1.pw]
  refine ⟨fun c => ?_, fun c => ?_⟩
  · rw [if_pos c] at hp
    refine sX_firstOrder hv hS.1 ⟨fun z => ?_, fun z => ⟨fun y => sX_mostJerk hv hS ?_, fun y => ?_⟩⟩
    · rw [if_pos z] at hp
      exact hp
    · rw [if_neg z, if_neg y] at hp
      exact hp
    · rw [if_neg z, if_pos y] at hp
      show post _ τ
      rw [y]
      exact hp
  · rw [if_neg c] at hp
    exact hp
theorem sR_start {W : Vw} {ρ : St} (hv : Iv W) (hR : MR W ρ) (a : Int32) {post : Int32 → St → Prop} (h0 : wi a.toInt 0 1 = false → post (-2) ρ) (h : wi a.toInt 0 1 = true → ∀ τ, EqR ρ τ → post (stA W a) τ) : wX12_start a ρ post := by
  have hc := hv.c
  have hl := ct_le (W 0 4) (bn W)
  refine sR_inI 0 1 rfl rfl (bI_e (fun b => h0 b) (fun b => ?_))
  have fin : ∀ (l d : Nat) (S : Nat → Bool) (x6 : Int32) (x3 x4 : Int32) (τ : St), l ≤ 7 → RS W ρ S τ → x4 = bI (decide (¬ nI (LSm W S) ≤ nI (W 0 2))) → Cl W S → (¬ nI (LSm W S) ≤ nI (W 0 2) ∨ (∀ k, k < W 0 4 → gp W S k = false)) → ct (W 0 4) S + l = ct (W 0 4) (bn W) → frd W l S d = frd W (ct (W 0 4) (bn W)) (fun _ => false) 0 → x6 = nI (mxj W (W 0 4) S) → d < 10 ^ 7 → wX12_start_184 post a (nI l) x4 (nI d) x6 τ := by
    intro l d S x6 x3 x4 τ hl7 hτ hx4 hC hend hct hfr hx6 hd
    refine lpc1 (wX12_start_187 post a (nI l) x4 (nI d) x6) (W 0 4) (by omega) (fun i υ => (∀ c k, ¬ (c = 19 ∧ k < W 0 4) → gI υ c k = gI τ c k) ∧ ∀ k, k < i → gI υ 19 k = nI (W 14 k)) ?_ ?_ τ ⟨fun _ _ _ => rfl, fun k hk => absurd hk (Nat.not_lt_zero _)⟩
    · rintro n υ ⟨u1, u2⟩
      rw [wX12_start_187_s]
      have eb : gI υ 0 28 = nI (W 0 4) := by rw [u1 _ _ (by omega), hτ.2.2 _ _ (by omega) (by omega) (by omega)]; exact hR.bs
      refine dt (by rw [eb]; exact nI_le (Nat.le_refl _) (by omega)) ?_
      have e1 : EqR ρ υ := by
        intro c k g
        by_cases z : c = 19 ∧ k < W 0 4
        · rw [z.1, u2 k z.2]
          exact ((hR.b z.2).2.2.2.2.1).symm
        · rw [u1 c k z]
          exact hτ.2.2 c k (fun y => g (by unfold scR; omega)) z (fun y => g (by unfold scR; omega))
      have hp := h b υ e1
      have hLb := sm_bd hv (mA W)
      have hLS := LS_le W S
      subst hx4
      have el : ¬ nI l ≤ 0 ↔ 1 ≤ l := by
        constructor
        · intro z
          rcases Nat.eq_zero_or_pos l with y | y
          · rw [y, nI_0] at z; exact absurd (by decide) z
          · exact y
        · intro z; exact nI_nle (by omega) (by omega)
      by_cases stl : nI (LSm W S) ≤ nI (W 0 2)
      · rw [decide_eq_false (fun z => z stl)]
        refine dm (by decide) ?_
        have hn : ∀ k, k < W 0 4 → gp W S k = false := by
          rcases hend with z | z
          · exact absurd stl z
          · exact z
        have eL := LS_end hv hC hn
        unfold stA at hp
        rw [← eL, if_pos stl, ← hfr] at hp
        by_cases l0 : 1 ≤ l
        · obtain ⟨l', rfl⟩ : ∃ q, l = q + 1 := ⟨l - 1, by omega⟩
          rw [frd_s, if_neg (fd_all hn)] at hp
          refine df (el.mpr (by omega)) ?_
          show post (-1) υ
          by_cases z : a = 0
          · rw [if_pos z] at hp; exact hp
          · rw [if_neg z, if_pos rfl] at hp; exact hp
        · have l00 : l = 0 := by omega
          subst l00
          rw [frd_0] at hp
          refine dt (by rw [nI_0]; decide) ?_
          refine ⟨fun z => ?_, fun z => ?_⟩
          · rw [if_neg z, if_neg (ne_m1 (by omega))] at hp
            show post x6 υ
            have eS : mxj W (W 0 4) S = mxj W (W 0 4) (bn W) := by
              refine mxj_cg (fun k hk => ?_)
              cases sk : S k
              · cases bk : bn W k
                · rfl
                · exfalso
                  have := ct_lt (n := W 0 4) (p := S) (q := bn W) (fun i hi si => by unfold bn; exact decide_eq_true (hC.1 i hi si)) hk sk bk
                  omega
              · unfold bn
                exact (decide_eq_true (hC.1 k hk sk)).symm
            rw [hx6, eS]
            exact hp
          · rw [if_pos z] at hp
            exact hp
      · rw [decide_eq_true stl]
        refine dm (by decide) ?_ |> fun q => ?_
        all_goals sorry
    · sorry
  sorry
