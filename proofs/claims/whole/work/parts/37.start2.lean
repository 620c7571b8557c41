/-! PURE: start -/
def RS (W : Vw) (ρ : St) (S : Nat → Bool) (τ : St) : Prop := MR (wo W S) τ ∧ (∀ k, k < W 0 4 → gI τ 25 k = nI (W 14 k)) ∧ ∀ c k, ¬ c = 25 → ¬ (c = 19 ∧ k < W 0 4) → ¬ c = 22 → gI τ c k = gI ρ c k
theorem RS.e22 {W : Vw} {ρ τ υ : St} {S : Nat → Bool} (h : RS W ρ S τ) (e : Eq22 τ υ) : RS W ρ S υ := ⟨h.1.eq e.x, fun k hk => (e 25 k (by omega)).trans (h.2.1 k hk), fun c k g1 g2 g3 => (e c k g3).trans (h.2.2 c k g1 g2 g3)⟩
theorem RS.pw {W : Vw} {ρ τ : St} {S : Nat → Bool} (h : RS W ρ S τ) : gI τ 0 11 = nI (W 0 2) := h.1.pw
theorem wo_MR {W : Vw} {ρ τ : St} (hR : MR W ρ) {S : Nat → Bool} (t1 : ∀ c k, ¬ c = 25 → ¬ (c = 19 ∧ k < W 0 4) → ¬ c = 22 → gI τ c k = gI ρ c k) (t2 : ∀ k, k < W 0 4 → gI τ 19 k = nI (if S k = true then 1 else 0)) : MR (wo W S) τ := by
  have q : ∀ c k, ¬ c = 25 → ¬ c = 19 → ¬ c = 22 → gI τ c k = gI ρ c k := fun c k g1 g2 g3 => t1 c k g1 (fun z => g2 z.1) g3
  have w : ∀ x y, ¬ x = 14 → wo W S x y = W x y := fun x y h => wo_f h y
  refine ⟨?_, ?_, ?_, ?_⟩
  · rw [w 0 0 (by omega), w 0 1 (by omega), w 0 2 (by omega), w 0 3 (by omega), w 0 4 (by omega), q 0 9 (by omega) (by omega) (by omega), q 0 18 (by omega) (by omega) (by omega), q 0 28 (by omega) (by omega) (by omega), q 0 10 (by omega) (by omega) (by omega), q 0 11 (by omega) (by omega) (by omega)]
    exact hR.1
  · intro s hs
    rw [w 0 0 (by omega)] at hs
    rw [w 1 s (by omega), w 2 s (by omega), q 4 s (by omega) (by omega) (by omega), q 5 s (by omega) (by omega) (by omega)]
    exact hR.s hs
  · intro m hm
    rw [w 0 3 (by omega)] at hm
    rw [w 3 m (by omega), w 4 m (by omega), w 5 m (by omega), w 6 m (by omega), w 7 m (by omega), w 8 m (by omega), q 6 m (by omega) (by omega) (by omega), q 8 m (by omega) (by omega) (by omega), q 9 m (by omega) (by omega) (by omega), q 0 34 (by omega) (by omega) (by omega), q 0 35 (by omega) (by omega) (by omega), q 7 m (by omega) (by omega) (by omega), q 10 m (by omega) (by omega) (by omega), q 11 m (by omega) (by omega) (by omega)]
    exact hR.m hm
  · intro k hk
    rw [w 0 4 (by omega)] at hk
    obtain ⟨r1, r2, r3, r4, r5, r6⟩ := hR.b hk
    have q12 : ∀ x, gI τ 12 x = gI ρ 12 x := fun x => q _ _ (by omega) (by omega) (by omega)
    have e14 : wo W S 14 k = (if S k = true then 1 else 0) := if_pos rfl
    rw [w 10 k (by omega), w 11 k (by omega), w 12 k (by omega), w 13 k (by omega), w 15 k (by omega), w 16 k (by omega), e14, t2 k hk, q 13 k (by omega) (by omega) (by omega), q 14 k (by omega) (by omega) (by omega), q 15 k (by omega) (by omega) (by omega), q 18 k (by omega) (by omega) (by omega), q 0 29 (by omega) (by omega) (by omega), q 0 30 (by omega) (by omega) (by omega), q 16 k (by omega) (by omega) (by omega), q 17 k (by omega) (by omega) (by omega)]
    simp only [q12]
    exact ⟨r1, r2, r3, r4, trivial, r6⟩
theorem sR_nextOn {W : Vw} {ρ τ : St} (hv : Iv W) {S : Nat → Bool} (hC : Cl W S) (hR : RS W ρ S τ) (hS : SR (wo W S) τ) {post : Int32 → St → Prop} (h : post (fI (W 0 4) (gp W S)) τ) : wX12_nextOn τ post := by
  have hc := hv.c
  have hvS := wo_iv hv S
  have e1 : ∀ x : Nat, x ≤ 1 → (nI x = (1 : Int32) ↔ x = 1) := fun x hx => nI_eq (b := 1) (by omega) (by omega)
  have eb : gI τ 0 28 = nI (W 0 4) := by
    have := hR.1.bs
    rw [wo_f (by omega)] at this
    exact this
  refine lpc1 (wX12_nextOn_2 post) (W 0 4) (by omega) (fun i υ => υ = τ ∧ ∀ j, j < i → gp W S j = false) ?_ ?_ τ ⟨rfl, fun j hj => absurd hj (Nat.not_lt_zero _)⟩
  · rintro n υ ⟨rfl, h0⟩
    rw [wX12_nextOn_2_s]
    refine dt (by rw [eb]; exact nI_le (Nat.le_refl _) (by omega)) ?_
    rw [← fI_no h0]
    exact h
  · rintro n i υ hi ⟨rfl, h0⟩ kk
    rw [wX12_nextOn_2_s]
    have hb := hv.b hi
    have hi' : i < wo W S 0 4 := by rw [wo_f (by omega)]; exact hi
    obtain ⟨r1, r2, r3, r4, r5, r6⟩ := hR.1.b hi'
    rw [wo_f (by omega)] at r2
    have r5' : gI υ 19 i = nI (if S i = true then 1 else 0) := r5
    have no : gp W S i = false → wX12_nextOn_45 (wX12_nextOn_2 post n) post (nI i) υ := by
      rintro e v rfl
      rw [nI_1]
      exact kk _ ⟨rfl, all_s h0 e⟩
    have ng : ¬ (W 14 i = 1 ∧ S i = false ∧ ts W S (W 11 i) = true) → gp W S i = false := fun c => by
      cases g : gp W S i
      · rfl
      · exact absurd (gp_t.mp g) c
    refine df (by rw [eb]; exact nI_ge hi (by omega)) ⟨vin (by omega) (by omega), ?_⟩
    rw [nI_clamp (by omega), hR.2.1 i hi, e1 _ hb.2.2.2.2.2.2.1, r5', r2]
    by_cases on : W 14 i = 1
    · refine dn on ?_
      cases si : S i
      · refine dn rfl ⟨vin (by omega) (by omega), ?_⟩
        have h7 := rk_7 hv (W 11 i)
        have t1 := (T_ts hv hC 8 (W 11 i) (by omega)).1
        rw [nI_clamp (by omega), sR_ways hvS hS (by omega)]
        by_cases z : (T (wo W S) (W 11 i)).1 = 0
        · refine dt z (no (ng (fun y => ?_)))
          have := t1.mpr y.2.2
          omega
        · refine df z ?_
          rw [← fI_at hi h0 (gp_t.mpr ⟨on, si, t1.mp (by omega)⟩)]
          exact h
      · refine dm (by decide) (no (ng (fun y => ?_)))
        rw [si] at y
        exact absurd y.2.1 (by decide)
    · exact dm on (no (ng (fun y => on y.1)))
/-- what start answers -/
def stA (W : Vw) (a : Int32) : Int32 := if nI (sm W (W 0 3) (mA W)) ≤ nI (W 0 2) then (if a = 0 then frd W (ct (W 0 4) (bn W)) (fun _ => false) 0 else if frd W (ct (W 0 4) (bn W)) (fun _ => false) 0 = -1 then -1 else nI (mxj W (W 0 4) (bn W))) else -1
theorem sX_start {W : Vw} {ids : List Nat} {σ : St} (hv : Iv W) (hM : MX W ids σ) (a : Int32) {post : Int32 → St → Prop} (h0 : wi a.toInt 0 1 = false → post (-2) σ) (h : wi a.toInt 0 1 = true → ∀ τ, EqX σ τ → post (stA W a) τ) : wX11_start ids a σ post := by
  refine sX_within 0 1 rfl rfl (bI_e (fun b => h0 b) (fun b => ?_))
  refine sX_spin hv hM (fun τ he hS => sX_loadedInAll hv hS ?_)
  have hp := h b τ he
  unfold stA at hp
  rw [hS.1.pw]
  refine ⟨fun c => ?_, fun c => ?_⟩
  · rw [if_pos c] at hp
    refine sX_firstOrder hv hS.1 ⟨fun z => ?_, fun z => ⟨fun y => sX_mostJerk hv hS ?_, fun y => ?_⟩⟩
    · rw [if_pos z] at hp
      exact hp
    · rw [if_neg z, if_neg y] at hp
      exact hp
    · rw [if_neg z, if_pos y] at hp
      show post _ τ
      rw [y]
      exact hp
  · rw [if_neg c] at hp
    exact hp
theorem sR_start {W : Vw} {ρ : St} (hv : Iv W) (hR : MR W ρ) (a : Int32) {post : Int32 → St → Prop} (h0 : wi a.toInt 0 1 = false → post (-2) ρ) (h : wi a.toInt 0 1 = true → ∀ τ, EqR ρ τ → post (stA W a) τ) : wX12_start a ρ post := by
  have hc := hv.c
  have hl := ct_le (W 0 4) (bn W)
  refine sR_inI 0 1 rfl rfl (bI_e (fun b => h0 b) (fun b => ?_))
  have fin : ∀ (l d : Nat) (S : Nat → Bool) (x6 : Int32) (x3 x4 : Int32) (τ : St), l ≤ 7 → RS W ρ S τ → x4 = bI (decide (¬ nI (LSm W S) ≤ nI (W 0 2))) → Cl W S → (¬ nI (LSm W S) ≤ nI (W 0 2) ∨ (∀ k, k < W 0 4 → gp W S k = false)) → ct (W 0 4) S + l = ct (W 0 4) (bn W) → frd W l S d = frd W (ct (W 0 4) (bn W)) (fun _ => false) 0 → x6 = nI (mxj W (W 0 4) S) → d < 10 ^ 7 → wX12_start_184 post a (nI l) x4 (nI d) x6 τ := by
    intro l d S x6 x3 x4 τ hl7 hτ hx4 hC hend hct hfr hx6 hd
    refine lpc1 (wX12_start_187 post a (nI l) x4 (nI d) x6) (W 0 4) (by omega) (fun i υ => (∀ c k, ¬ (c = 19 ∧ k < W 0 4) → gI υ c k = gI τ c k) ∧ ∀ k, k < i → gI υ 19 k = nI (W 14 k)) ?_ ?_ τ ⟨fun _ _ _ => rfl, fun k hk => absurd hk (Nat.not_lt_zero _)⟩
    · rintro n υ ⟨u1, u2⟩
      rw [wX12_start_187_s]
      have eb : gI υ 0 28 = nI (W 0 4) := by rw [u1 _ _ (by omega), hτ.2.2 _ _ (by omega) (by omega) (by omega)]; exact hR.bs
      refine dt (by rw [eb]; exact nI_le (Nat.le_refl _) (by omega)) ?_
      have e1 : EqR ρ υ := by
        intro c k g
        by_cases z : c = 19 ∧ k < W 0 4
        · rw [z.1, u2 k z.2]
          exact ((hR.b z.2).2.2.2.2.1).symm
        · rw [u1 c k z]
          exact hτ.2.2 c k (fun y => g (by unfold scR; omega)) z (fun y => g (by unfold scR; omega))
      have hp := h b υ e1
      have hLb := sm_bd hv (mA W)
      have hLS := LS_le W S
      subst hx4
      have el : ¬ nI l ≤ 0 ↔ 1 ≤ l := by
        constructor
        · intro z
          rcases Nat.eq_zero_or_pos l with y | y
          · rw [y, nI_0] at z; exact absurd (by decide) z
          · exact y
        · intro z; exact nI_nle (by omega) (by omega)
      by_cases stl : nI (LSm W S) ≤ nI (W 0 2)
      · rw [decide_eq_false (fun z => z stl)]
        refine dn rfl ?_
        have hn : ∀ k, k < W 0 4 → gp W S k = false := by
          rcases hend with z | z
          · exact absurd stl z
          · exact z
        have eL := LS_end hv hC hn
        unfold stA at hp
        rw [← eL, if_pos stl, ← hfr] at hp
        by_cases l0 : 1 ≤ l
        · obtain ⟨l', rfl⟩ : ∃ q, l = q + 1 := ⟨l - 1, by omega⟩
          rw [frd_s, if_neg (fd_all hn)] at hp
          refine df (el.mpr (by omega)) ?_
          show post (-1) υ
          by_cases z : a = 0
          · rw [if_pos z] at hp; exact hp
          · rw [if_neg z, if_pos rfl] at hp; exact hp
        · have l00 : l = 0 := by omega
          subst l00
          rw [frd_0] at hp
          refine dt (by rw [nI_0]; decide) ?_
          refine ⟨fun z => ?_, fun z => ?_⟩
          · rw [if_neg z, if_neg (ne_m1 (by omega))] at hp
            show post x6 υ
            have eS : mxj W (W 0 4) S = mxj W (W 0 4) (bn W) := by
              refine mxj_cg (fun k hk => ?_)
              cases sk : S k
              · cases bk : bn W k
                · rfl
                · exfalso
                  have := ct_lt (n := W 0 4) (p := S) (q := bn W) (fun i hi si => by unfold bn; exact decide_eq_true (hC.1 i hi si)) hk sk bk
                  omega
              · unfold bn
                exact (decide_eq_true (hC.1 k hk sk)).symm
            rw [hx6, eS]
            exact hp
          · rw [if_pos z] at hp
            exact hp
      · rw [decide_eq_true stl]
        refine dm (by decide) ?_
        have nl : ¬ nI (sm W (W 0 3) (mA W)) ≤ nI (W 0 2) := by
          intro z
          rw [nI_leI hLb (by omega)] at z
          rw [nI_leI (by omega) (by omega)] at stl
          omega
        unfold stA at hp
        rw [if_neg nl] at hp
        exact hp
    · rintro n i υ hi ⟨u1, u2⟩ kk
      rw [wX12_start_187_s]
      have eb : gI υ 0 28 = nI (W 0 4) := by rw [u1 _ _ (by omega), hτ.2.2 _ _ (by omega) (by omega) (by omega)]; exact hR.bs
      refine df (by rw [eb]; exact nI_ge hi (by omega)) ⟨vin (by omega) (by omega), ?_⟩
      rw [nI_clamp (by omega), u1 25 i (by omega), hτ.2.1 i hi]
      rintro s7 rfl v rfl
      rw [nI_1]
      refine kk _ ⟨fun c k g => by rw [gI_o (by omega)]; exact u1 c k g, fun k hk => ?_⟩
      by_cases e : k = i
      · subst e; rw [gI_s]
      · rw [gI_o (by omega)]; exact u2 k (by omega)
  have hv0 : Cl W (fun _ => false) := ⟨fun k _ z => Bool.noConfusion z, fun k _ z => Bool.noConfusion z⟩
  have main : ∀ (τ : St), RS W ρ (fun _ => false) τ → SR (wo W (fun _ => false)) τ → ∀ x4, x4 = bI (decide (¬ nI (LSm W (fun _ => false)) ≤ nI (W 0 2))) → wX12_start_81 post a (nI (ct (W 0 4) (bn W))) (nI (LSm W (fun _ => false))) x4 τ := by
    rintro τ0 hτ0 hS0 x40 rfl
    refine sR_nextOn hv hv0 hτ0 hS0 ?_
    have key := lpq1 (A1 := Int32 × Int32 × Int32 × Int32 × Int32 × Int32) (fun N p τ => wX12_start_95 post a N p.1 p.2.1 p.2.2.1 p.2.2.2.1 p.2.2.2.2.1 p.2.2.2.2.2 τ) (fun m p τ => ∃ (S : Nat → Bool) (d : Nat), p = (nI m, nI (LSm W S), bI (decide (¬ nI (LSm W S) ≤ nI (W 0 2))), nI d, nI (mxj W (W 0 4) S), fI (W 0 4) (gp W S)) ∧ RS W ρ S τ ∧ Cl W S ∧ ct (W 0 4) S + m = ct (W 0 4) (bn W) ∧ frd W m S d = frd W (ct (W 0 4) (bn W)) (fun _ => false) 0 ∧ d < 10 ^ (ct (W 0 4) S)) ?_ (ct (W 0 4) (bn W)) (nI (ct (W 0 4) (bn W)), nI (LSm W (fun _ => false)), bI (decide (¬ nI (LSm W (fun _ => false)) ≤ nI (W 0 2))), 0, 0, fI (W 0 4) (gp W (fun _ => false))) τ0 ⟨fun _ => false, 0, ?_, hτ0, hv0, ?_, rfl, ?_⟩
    · exact key
    · rintro N m p τ ⟨S, d, rfl, hτ, hC, hct, hfr, hd⟩ kk
      show wX12_start_95 post a (N + 1) (nI m) (nI (LSm W S)) (bI (decide (¬ nI (LSm W S) ≤ nI (W 0 2)))) (nI d) (nI (mxj W (W 0 4) S)) (fI (W 0 4) (gp W S)) τ
      rw [wX12_start_95_s]
      have hd7 : d < 10 ^ 7 := Nat.lt_of_lt_of_le hd (Nat.pow_le_pow_right (by decide) (by omega))
      by_cases stl : nI (LSm W S) ≤ nI (W 0 2)
      · rw [decide_eq_false (fun z => z stl)]
        refine dn rfl ?_
        rw [fI_m (by omega)]
        by_cases g : fd (W 0 4) (gp W S) < W 0 4
        · refine df (fun z => z g) ?_
          have gy := fd_yes _ _ g
          obtain ⟨on, nS, td⟩ := gp_t.mp gy
          have hm1 : 1 ≤ m := by
            have := ct_lt (n := W 0 4) (p := S) (q := bn W) (fun i hi si => by unfold bn; exact decide_eq_true (hC.1 i hi si)) g nS (by unfold bn; exact decide_eq_true on)
            omega
          obtain ⟨m', rfl⟩ : ∃ q, m = q + 1 := ⟨m - 1, by omega⟩
          rw [frd_s, if_pos g] at hfr
          have hC' := Cl_ad hv hC g on td
          have e10 : (10 : Int32) = nI 10 := rfl
          have em : nI (m' + 1) + -1 = nI m' := by rw [← Int32.sub_eq_add_neg, nI_pred]
          rw [fI_y g]
          refine ⟨vin (by omega) (by omega), ?_⟩
          rw [nI_clamp (by omega), em, e10, nI_mul, nI_add]
          rintro s16 rfl v17 rfl v18 rfl
          have hM' : RS W ρ (adS S (fd (W 0 4) (gp W S))) (uI τ 19 (fd (W 0 4) (gp W S)) 1) := by
            have t1 : ∀ c k, ¬ c = 25 → ¬ (c = 19 ∧ k < W 0 4) → ¬ c = 22 → gI (uI τ 19 (fd (W 0 4) (gp W S)) 1) c k = gI ρ c k := fun c k g1 g2 g3 => by rw [gI_o (by omega)]; exact hτ.2.2 c k g1 g2 g3
            refine ⟨wo_MR hR t1 (fun k hk => ?_), fun k hk => by rw [gI_o (by omega)]; exact hτ.2.1 k hk, t1⟩
            have o19 : gI τ 19 k = nI (if S k = true then 1 else 0) := by
              have hk' : k < wo W S 0 4 := by rw [wo_f (by omega)]; exact hk
              exact (hτ.1.b hk').2.2.2.2.1
            unfold adS
            by_cases e : k = fd (W 0 4) (gp W S)
            · rw [e, gI_s, decide_eq_true rfl, Bool.or_true]
              rfl
            · rw [gI_o (by omega), o19, decide_eq_false e, Bool.or_false]
          refine sR_lays22 (wo_iv hv _) hM'.1 (fun υ he hS => sR_allLoaded (wo_iv hv _) hS ?_)
          have hυ := hM'.e22 he
          have w3 : wo W (adS S (fd (W 0 4) (gp W S))) 0 3 = W 0 3 := wo_f (by omega) 3
          rw [w3, sm_wo hv hC', LS_ad hv g nS, ← nI_add, Int32.add_comm (nI (LSm W S)), Int32.add_sub_cancel, Int32.add_comm, nI_add]
          have b1 := JL_bd hv (fd (W 0 4) (gp W S))
          have b2 := mxj_bd hv S (W 0 4)
          rw [nI_leI b1 b2]
          have go : ∀ x, x = nI (mxj W (W 0 4) (adS S (fd (W 0 4) (gp W S)))) → wX12_start_155 (fun a1 a2 a3 a4 a5 a6 s => wX12_start_95 post a N a1 a2 a3 a4 a5 a6 s) post a (nI m') (nI (10 * d + fd (W 0 4) (gp W S))) (nI (LSm W S + JL W (fd (W 0 4) (gp W S)))) x υ := by
            rintro x rfl
            have eL : LSm W S + JL W (fd (W 0 4) (gp W S)) = LSm W (adS S (fd (W 0 4) (gp W S))) := (LS_ad hv g nS).symm
            rw [eL]
            unfold wX12_start_155
            rw [hυ.pw]
            have ectn : ct (W 0 4) (adS S (fd (W 0 4) (gp W S))) = ct (W 0 4) S + 1 := by
              refine ct_dr (j := fd (W 0 4) (gp W S)) g (fun j hj => ?_) (by unfold adS; simp) nS
              unfold adS
              rw [decide_eq_false hj, Bool.or_false]
            have fin2 : ∀ y, y = bI (decide (¬ nI (LSm W (adS S (fd (W 0 4) (gp W S)))) ≤ nI (W 0 2))) → wX12_start_173 (fun a1 a2 a3 a4 a5 a6 s => wX12_start_95 post a N a1 a2 a3 a4 a5 a6 s) post a (nI m') (nI (LSm W (adS S (fd (W 0 4) (gp W S))))) (nI (10 * d + fd (W 0 4) (gp W S))) (nI (mxj W (W 0 4) (adS S (fd (W 0 4) (gp W S))))) y υ := by
              rintro y rfl
              refine sR_nextOn hv hC' hυ hS ?_
              refine kk m' (nI m', nI (LSm W (adS S (fd (W 0 4) (gp W S)))), bI (decide (¬ nI (LSm W (adS S (fd (W 0 4) (gp W S)))) ≤ nI (W 0 2))), nI (10 * d + fd (W 0 4) (gp W S)), nI (mxj W (W 0 4) (adS S (fd (W 0 4) (gp W S)))), fI (W 0 4) (gp W (adS S (fd (W 0 4) (gp W S))))) υ ⟨_, 10 * d + fd (W 0 4) (gp W S), rfl, hυ, hC', by omega, ?_, ?_⟩ (by omega)
              · rw [← hfr, Nat.mul_comm 10 d]
              · rw [ectn, Nat.pow_succ]
                omega
            by_cases z : nI (LSm W (adS S (fd (W 0 4) (gp W S)))) ≤ nI (W 0 2)
            · exact dt z (fin2 0 (by rw [decide_eq_false (fun q => q z)]; rfl))
            · exact df z (fin2 1 (by rw [decide_eq_true z]; rfl))
          refine ⟨fun z => go _ ?_, fun z => go _ ?_⟩
          · rw [mxj_ad nS _ g, if_neg (by omega)]
          · rw [mxj_ad nS _ g, if_pos (by omega)]
        · refine dt g ?_
          have := fin m d S (nI (mxj W (W 0 4) S)) 0 (bI false) τ (by omega) hτ (by rw [decide_eq_false (fun z => z stl)]) hC (Or.inr (fun k hk => by
            have h0 := fd_no (W 0 4) (gp W S)
            have h1 := fd_le (W 0 4) (gp W S)
            exact h0 k (by omega))) hct hfr rfl hd7
          exact this
      · rw [decide_eq_true stl]
        refine dm (by decide) ?_
        exact fin m d S (nI (mxj W (W 0 4) S)) 0 (bI true) τ (by omega) hτ (by rw [decide_eq_true stl]) hC (Or.inl stl) hct hfr rfl hd7
    · have e : mxj W (W 0 4) (fun _ => false) = 0 := by
        have : ∀ n, mxj W n (fun _ => false) = 0 := by
          intro n
          induction n with
          | zero => rfl
          | succ n ih => rw [mxj_s, ih]; simp
        exact this _
      rw [e]
      rfl
    · rw [ct_none, Nat.zero_add]
    · rw [ct_none]
      decide
  refine lpc2 (wX12_start_17 post a) (W 0 4) (by omega) (fun i v τ => v = nI (ct i (bn W)) ∧ (∀ c k, ¬ c = 25 → ¬ (c = 19 ∧ k < i) → gI τ c k = gI ρ c k) ∧ (∀ k, k < i → gI τ 19 k = 0 ∧ gI τ 25 k = nI (W 14 k))) ?_ ?_ 0 ρ ⟨rfl, fun _ _ _ _ => rfl, fun k hk => absurd hk (Nat.not_lt_zero _)⟩
  · rintro n v τ ⟨rfl, t1, t2⟩
    rw [wX12_start_17_s]
    refine dt (by rw [t1 _ _ (by omega) (by omega), hR.bs]; exact nI_le (Nat.le_refl _) (by omega)) ?_
    have tt : ∀ c k, ¬ c = 25 → ¬ (c = 19 ∧ k < W 0 4) → ¬ c = 22 → gI τ c k = gI ρ c k := fun c k g1 g2 _ => t1 c k g1 g2
    have hτ : RS W ρ (fun _ => false) τ := ⟨wo_MR hR tt (fun k hk => (t2 k hk).1), fun k hk => (t2 k hk).2, tt⟩
    refine sR_lays22 (wo_iv hv _) hτ.1 (fun υ he hS => sR_allLoaded (wo_iv hv _) hS ?_)
    have hυ := hτ.e22 he
    have w3 : wo W (fun _ => false) 0 3 = W 0 3 := wo_f (by omega) 3
    rw [w3, sm_wo hv hv0, hυ.pw]
    by_cases z : nI (LSm W (fun _ => false)) ≤ nI (W 0 2)
    · exact dt z (main υ hυ hS 0 (by rw [decide_eq_false (fun q => q z)]; rfl))
    · exact df z (main υ hυ hS 1 (by rw [decide_eq_true z]; rfl))
  · rintro n i v τ hi ⟨rfl, t1, t2⟩ kk
    rw [wX12_start_17_s]
    have r5 := (hR.b hi).2.2.2.2.1
    have hb := hv.b hi
    refine df (by rw [t1 _ _ (by omega) (by omega), hR.bs]; exact nI_ge hi (by omega)) ⟨vin (by omega) (by omega), ?_⟩
    rw [nI_clamp (by omega), t1 19 i (by omega) (by omega), r5]
    rintro s33 rfl
    rw [gI_o (by omega), t1 19 i (by omega) (by omega), r5, nI_add]
    rintro v35 rfl s37 rfl v38 rfl
    rw [nI_1]
    refine kk _ _ ⟨?_, fun c k g1 g2 => ?_, fun k hk => ?_⟩
    · rw [ct_s]
      unfold bn
      have : W 14 i = 0 ∨ W 14 i = 1 := by omega
      rcases this with e | e <;> rw [e] <;> rfl
    · rw [gI_o (by omega), gI_o (by omega)]
      exact t1 c k g1 (by omega)
    · by_cases e : k = i
      · subst e
        rw [gI_s, gI_o (by omega), gI_s]
        exact ⟨rfl, rfl⟩
      · rw [gI_o (by omega), gI_o (by omega), gI_o (by omega), gI_o (by omega)]
        exact t2 k (by omega)
theorem pc_start {ids : List Nat} {σ ρ : St} (a1 : Int32) (h : Rel ids σ ρ) : wX11_start ids a1 σ (fun r σ1 => wX12_start a1 ρ (fun r2 ρ1 => r = r2 ∧ Rel ids σ1 ρ1)) := by
  obtain ⟨-, W, h⟩ := h
  have hv := h.iv
  refine sX_start hv h.mx a1 (fun b => ?_) (fun b τ e1 => ?_)
  · exact sR_start hv h.mr a1 (fun _ => ⟨rfl, h.rel⟩) (fun c => by rw [b] at c; exact absurd c (by decide))
  · exact sR_start hv h.mr a1 (fun c => by rw [b] at c; exact absurd c (by decide)) (fun _ υ e2 => ⟨rfl, (h.eq e1 e2).rel⟩)
