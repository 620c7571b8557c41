/-! PURE: wear, wants, minds -/
/-- between two bounds -/
def cl (lo hi r : Int32) : Int32 := if lo ≤ r then (if r ≤ hi then r else hi) else lo
theorem cl_X {lo hi r : Int32} (h : lo.toInt ≤ hi.toInt) : (if lo < (if r < hi then r else hi) then (if r < hi then r else hi) else lo) = cl lo hi r := by
  unfold cl
  by_cases c1 : r < hi
  · rw [if_pos c1]
    by_cases c2 : lo < r
    · rw [if_pos c2, if_pos (by rw [fb_le]; rw [fb_lt] at c2; omega), if_pos (by rw [fb_le]; rw [fb_lt] at c1; omega)]
    · rw [if_neg c2]
      by_cases c3 : lo ≤ r
      · rw [if_pos c3, if_pos (by rw [fb_le]; rw [fb_lt] at c1; omega)]
        rw [fb_eq]
        rw [fb_lt] at c2
        rw [fb_le] at c3
        omega
      · rw [if_neg c3]
  · rw [if_neg c1]
    by_cases c3 : lo ≤ r
    · rw [if_pos c3]
      have e : (if r ≤ hi then r else hi) = hi := by
        by_cases c4 : r ≤ hi
        · rw [if_pos c4, fb_eq]
          rw [fb_lt] at c1
          rw [fb_le] at c4
          omega
        · rw [if_neg c4]
      rw [e]
      by_cases c5 : lo < hi
      · rw [if_pos c5]
      · rw [if_neg c5, fb_eq]
        rw [fb_lt] at c5
        omega
    · rw [fb_le] at c3
      rw [fb_lt] at c1
      omega
theorem cl_r {lo hi r : Int32} (h : lo.toInt ≤ hi.toInt) : lo.toInt ≤ (cl lo hi r).toInt ∧ (cl lo hi r).toInt ≤ hi.toInt := by
  unfold cl
  by_cases c1 : lo ≤ r
  · rw [if_pos c1]
    rw [fb_le] at c1
    by_cases c2 : r ≤ hi
    · rw [if_pos c2]
      rw [fb_le] at c2
      omega
    · rw [if_neg c2]
      omega
  · rw [if_neg c1]
    omega
theorem sR_within {a lo hi : Int32} {ρ : St} {post : Int32 → St → Prop} (h : post (cl lo hi a) ρ) : wX12_within a lo hi ρ post := by
  unfold cl at h
  refine ⟨fun c => ⟨fun d => ?_, fun d => ?_⟩, fun c => ?_⟩
  · rw [if_pos c, if_pos d] at h; exact h
  · rw [if_pos c, if_neg d] at h; exact h
  · rw [if_neg c] at h; exact h
/-- the text that rules, in the class -/
def TG (t : Nat) (L0 L1 L2 : List Int32) (ids : List Nat) (σ : St) : Prop := okT ids (20 + 4 * t) ∧ gI σ 0 4 = nI t ∧ t < 6 ∧ TXt L0 L1 L2 σ t ∧ (L0 ++ L1 ++ L2).length ≤ 160 ∧ (∃ v, Ex L0 v ∧ v ≤ 80) ∧ (∃ v, Ex L1 v ∧ v ≤ 80) ∧ ∃ v, Ex L2 v ∧ v ≤ 80
/-- and in the reference -/
def TH (b : By) (n t : Nat) (L0 L1 L2 : List Int32) (ρ : St) : Prop := gI ρ 0 4 = nI t ∧ t < 6 ∧ TRt b n ρ t ∧ pAll b n = .ok (L0, L1, L2)
theorem TG.eq {t : Nat} {L0 L1 L2 : List Int32} {ids : List Nat} {σ τ : St} (h : TG t L0 L1 L2 ids σ) (e : ∀ c k, (c = 0 ∧ k = 4) ∨ c = 21 + 4 * t ∨ c = 22 + 4 * t → gI τ c k = gI σ c k) : TG t L0 L1 L2 ids τ := by
  obtain ⟨h1, h2, h3, ⟨x1, x2, x3, x4⟩, h5⟩ := h
  refine ⟨h1, (e _ _ (by omega)).trans h2, h3, ⟨fun i hi => (e _ _ (by omega)).trans (x1 i hi), (e _ _ (by omega)).trans x2, (e _ _ (by omega)).trans x3, (e _ _ (by omega)).trans x4⟩, h5⟩
theorem TG.x {t : Nat} {L0 L1 L2 : List Int32} {ids : List Nat} {σ τ : St} (h : TG t L0 L1 L2 ids σ) (e : EqX σ τ) : TG t L0 L1 L2 ids τ := by
  have := h.2.2.1
  exact h.eq (fun c k hc => e.2 _ _ (by unfold scX; omega))
theorem TH.eq {b : By} {n t : Nat} {L0 L1 L2 : List Int32} {ρ τ : St} (h : TH b n t L0 L1 L2 ρ) (e : ∀ c k, (c = 0 ∧ k = 4) ∨ c = 1 ∨ c = 2 → gI τ c k = gI ρ c k) : TH b n t L0 L1 L2 τ := by
  obtain ⟨h1, h2, ⟨x1, x2, x3⟩, h4⟩ := h
  exact ⟨(e _ _ (by omega)).trans h1, h2, ⟨(e _ _ (by omega)).trans x1, x2, fun i hi => ⟨(x3 i hi).1, (e _ _ (by omega)).trans (x3 i hi).2⟩⟩, h4⟩
theorem TH.x {b : By} {n t : Nat} {L0 L1 L2 : List Int32} {ρ τ : St} (h : TH b n t L0 L1 L2 ρ) (e : EqR ρ τ) : TH b n t L0 L1 L2 τ := h.eq (fun c k hc => e _ _ (by unfold scR; omega))
theorem RW.tg {W : Vw} {ids : List Nat} {σ ρ : St} (h : RW W ids σ ρ) : ∃ b n L0 L1 L2, TG (W 0 13) L0 L1 L2 ids σ ∧ TH b n (W 0 13) L0 L1 L2 ρ := by
  have d := h.dv.1
  obtain ⟨b, n, L0, L1, L2, h1, h2, h3⟩ := h.tx (W 0 13) d.2.2.2.2.2.2.1
  obtain ⟨p1, p2, p3, p4⟩ := pAll_ok h1.2.1 h2
  exact ⟨b, n, L0, L1, L2, ⟨⟨h.fr.1 _ (by omega), by omega, by omega, by omega⟩, h.ts.2.1, by omega, h3, p1, p2, p3, p4⟩, h.tq.2.1, by omega, h1, h2⟩
theorem YF.s {t : Nat} (ht : t < 6) {σ τ : St} (h : YF (20 + 4 * t) σ τ) : EqS σ τ := by
  refine ⟨⟨h.2.2, fun c k n => h.1 c k (fun z => n ?_)⟩, h.2.1, fun k => h.1 8 k (by omega)⟩
  unfold scX
  omega
theorem sX_tell {t k : Nat} {L0 L1 L2 : List Int32} {ids : List Nat} {σ : St} (h : TG t L0 L1 L2 ids σ) (hk : k < 3) {nm : Nat → Int32} (hnm : ∀ i, i < 6 → gI σ 15 i = nm i) {post : Int32 → St → Prop} (hp : ∀ τ, EqS σ τ → post (val nm (if k = 0 then L0 else if k = 1 then L1 else L2)) τ) : (vp_in (gI σ 0 4) 6) ∧ wX9_says ids (20 + 4 * (gI σ 0 4).toNatClampNeg) (nI k) 15 6 σ post := by
  obtain ⟨h1, h2, h3, h4, h5, h6, h7, h8⟩ := h
  rw [h2]
  refine ⟨vin h3 (by omega), ?_⟩
  rw [nI_clamp (by omega)]
  exact sX_says h1 hk h4 h5 h6 h7 h8 hnm (fun τ f => hp τ (f.s h3))
theorem RG.x {ρ τ : St} (h : RG ρ τ) : EqR ρ τ := fun c k n => h.1 c k (fun z => n (by unfold scR; omega))
theorem SR.g {W : Vw} {σ τ : St} (h : SR W σ) (e : RG σ τ) : SR W τ := by
  refine ⟨h.1.eq e.x, fun s hs => ?_⟩
  unfold vR
  rw [e.2 _ _ (by omega), e.2 _ _ (by omega), e.1 _ _ (by omega)]
  exact h.2 s hs
theorem sR_tell {b : By} {n t k : Nat} {L0 L1 L2 : List Int32} {ρ : St} (h : TH b n t L0 L1 L2 ρ) (hk : k < 3) {a2 a3 a4 a5 a6 a7 : Int32} {post : Int32 → St → Prop} (hp : ∀ τ, RG ρ τ → post (val (nm6 a2 a3 a4 a5 a6 a7) (if k = 0 then L0 else if k = 1 then L1 else L2)) τ) : wX12_read (gI ρ 0 4) a2 a3 a4 a5 a6 a7 (nI k) ρ post := by
  obtain ⟨h1, h2, h3, h4⟩ := h
  rw [h1]
  refine sR_read h2 h3 hk (fun v τ g o => ?_)
  unfold OutA at o
  rw [h4] at o
  simp only at o
  rw [o.2]
  exact hp τ g
/-- a name is given its value -/
theorem nmw {σ s1 : St} {w : Int32} {i : Nat} {x : Int32} (hw : w.toNatClampNeg = i) (e : s1 = uI σ 15 w.toNatClampNeg x) : EqS σ s1 ∧ gI s1 15 i = x ∧ ∀ j, ¬ j = i → gI s1 15 j = gI σ 15 j := by
  subst e
  rw [hw]
  exact ⟨(EqS.rf σ).uI (by unfold scX; omega) (by omega), gI_s, fun j hj => gI_o (by omega)⟩
theorem nm6_ok {τ : St} {a0 a1 a2 a3 a4 a5 : Int32} (h0 : gI τ 15 0 = a0) (h1 : gI τ 15 1 = a1) (h2 : gI τ 15 2 = a2) (h3 : gI τ 15 3 = a3) (h4 : gI τ 15 4 = a4) (h5 : gI τ 15 5 = a5) : ∀ i, i < 6 → gI τ 15 i = nm6 a0 a1 a2 a3 a4 a5 i := by
  intro i hi
  have : i = 0 ∨ i = 1 ∨ i = 2 ∨ i = 3 ∨ i = 4 ∨ i = 5 := by omega
  rcases this with rfl | rfl | rfl | rfl | rfl | rfl
  · exact h0
  · exact h1
  · exact h2
  · exact h3
  · exact h4
  · exact h5
/-- what a belt wears, by the text's steps -/
def wn (W : Vw) (k : Nat) : Nat → Int32 := nm6 (nI (W 10 k)) (nI (cu W (W 11 k))) (nI (wr W k)) (nI (pl W k)) (nI (W 15 k + W 16 k)) (nI (ho W k))
def we (W : Vw) (k : Nat) (L0 : List Int32) : Int32 := cl 0 9999 (val (wn W k) L0)
theorem we_r (W : Vw) (k : Nat) (L0 : List Int32) : ∃ w : Nat, w ≤ 9999 ∧ we W k L0 = nI w := by
  have := cl_r (lo := 0) (hi := 9999) (r := val (wn W k) L0) (by decide)
  have e0 : (0 : Int32).toInt = 0 := by decide
  have e9 : (9999 : Int32).toInt = 9999 := by decide
  exact fb_of (x := we W k L0) (N := 9999) (by unfold we; omega) (by unfold we; omega)
theorem sX_wear {W : Vw} {ids : List Nat} {σ : St} (hv : Iv W) (hS : SX W ids σ) {k : Nat} (hk : k < W 0 4) {t : Nat} {L0 L1 L2 : List Int32} (hg : TG t L0 L1 L2 ids σ) {post : Int32 → St → Prop} (h : ∀ τ, EqS σ τ → post (we W k L0) τ) : wX11_wear ids (bO W k) σ post := by
  have hM := hS.1
  have hb := hv.b hk
  have hr := bO_r hv hk
  have z0 : (0 : Int32).toNatClampNeg = 0 := by decide
  have z1 : (1 : Int32).toNatClampNeg = 1 := by decide
  have z2 : (2 : Int32).toNatClampNeg = 2 := by decide
  have z3 : (3 : Int32).toNatClampNeg = 3 := by decide
  have z4 : (4 : Int32).toNatClampNeg = 4 := by decide
  have z5 : (5 : Int32).toNatClampNeg = 5 := by decide
  unfold wX11_wear
  refine ⟨vin (i := 0) (by omega) (by omega), ?_⟩
  intro s1 e1
  obtain ⟨E1, n1, o1⟩ := nmw z0 e1
  have S1 := hS.eq hv E1
  obtain ⟨-, -, b0, b1, b2, b3, b6, b7, b8⟩ := S1.1.b hk
  rw [b1]
  refine sX_cutTurns hv S1 hb.2.1 ⟨vin (i := 1) (by omega) (by omega), ?_⟩
  intro s2 e2
  obtain ⟨E2, n2, o2⟩ := nmw z1 e2
  have S2 := S1.eq hv E2
  refine sB_wrap hv S2.1 hk ⟨vin (i := 2) (by omega) (by omega), ?_⟩
  intro s3 e3
  obtain ⟨E3, n3, o3⟩ := nmw z2 e3
  have S3 := S2.eq hv E3
  refine sX_pull hv S3 hk ⟨vin (i := 3) (by omega) (by omega), ?_⟩
  intro s4 e4
  obtain ⟨E4, n4, o4⟩ := nmw z3 e4
  have S4 := S3.eq hv E4
  refine ⟨vin (i := 4) (by omega) (by omega), ?_⟩
  intro s5 e5
  obtain ⟨E5, n5, o5⟩ := nmw z4 e5
  have S5 := S4.eq hv E5
  refine sX_mostHours hv S5.1 hk ⟨vin (i := 5) (by omega) (by omega), ?_⟩
  intro s6 e6
  obtain ⟨E6, n6, o6⟩ := nmw z5 e6
  have E : EqS σ s6 := ((((E1.tr E2).tr E3).tr E4).tr E5).tr E6
  refine sX_tell (k := 0) (hg.x E.1) (by decide) (nm := wn W k) (nm6_ok ?_ ?_ ?_ ?_ ?_ n6) (fun τ Et => ?_)
  · rw [o6 0 (by omega), o5 0 (by omega), o4 0 (by omega), o3 0 (by omega), o2 0 (by omega), n1]
    exact (hM.b hk).2.2.1
  · rw [o6 1 (by omega), o5 1 (by omega), o4 1 (by omega), o3 1 (by omega), n2]
  · rw [o6 2 (by omega), o5 2 (by omega), o4 2 (by omega), n3]
  · rw [o6 3 (by omega), o5 3 (by omega), n4]
  · rw [o6 4 (by omega), n5, (S4.1.b hk).2.2.2.2.2.2.1, (S4.1.b hk).2.2.2.2.2.2.2.1, nI_add]
  · rw [cl_X (lo := 0) (hi := 9999) (by decide)]
    exact h τ (E.tr Et)
theorem sR_wear30 {W : Vw} {ρ : St} (hv : Iv W) (hS : SR W ρ) {k : Nat} (hk : k < W 0 4) {b : By} {n t : Nat} {L0 L1 L2 : List Int32} (hg : TH b n t L0 L1 L2 ρ) {S : Int32} (hS2 : mh W (W 0 3) (mOn W S) = ho W k) {post : Int32 → St → Prop} (h : ∀ τ, RG ρ τ → post (we W k L0) τ) : wX12_wearOf_26 post (nI k) 0 S ρ := by
  have hc := hv.c
  have hR := hS.1
  have hb := hv.b hk
  obtain ⟨r13, r14, r15, -⟩ := hR.b hk
  refine lpc2 (wX12_wearOf_30 post (nI k) S) (W 0 3) (by omega) (fun i v τ => τ = ρ ∧ v = nI (mh W i (mOn W S))) ?_ ?_ 0 ρ ⟨rfl, rfl⟩
  · rintro N v τ ⟨rfl, rfl⟩
    rw [wX12_wearOf_30_s]
    refine dt (by rw [hR.ms]; exact nI_le (Nat.le_refl _) (by omega)) ⟨vin (by omega) (by omega), ?_⟩
    rw [nI_clamp (by omega), r14, r13]
    refine sR_cutTurns hv hS (by omega) (sR_wrapOf hv hR hk (sR_pullOf hv hS hk (sR_sizeA hv hR hk (sR_sizeB hv hR hk ?_))))
    refine sR_tell (k := 0) hg (by decide) (fun τ' g => sR_within ?_)
    rw [nI_add, hS2]
    exact h τ' g
  · rintro N i v τ hi ⟨rfl, rfl⟩ kk
    rw [wX12_wearOf_30_s]
    obtain ⟨m6, m8, m9, m7, m10, m11⟩ := hR.m hi
    have hm := hv.m hi
    have hl := mh_le hv (mOn W S) i (by omega)
    have go : ∀ v', v' = nI (mh W (i + 1) (mOn W S)) → wX12_wearOf_87 (wX12_wearOf_30 post (nI k) S N) post (nI k) S (nI i) v' τ := by
      rintro _ rfl v1 rfl
      rw [nI_1]
      exact kk _ _ ⟨rfl, rfl⟩
    have stay : mOn W S i = false → wX12_wearOf_86 (wX12_wearOf_30 post (nI k) S N) post (nI k) (nI (mh W i (mOn W S))) S (nI i) τ := fun z => go _ (by rw [mh_s, if_neg (fun q => by rw [z] at q; exact Bool.noConfusion q.1)])
    refine df (by rw [hR.ms]; exact nI_ge hi (by omega)) ⟨vin (by omega) (by omega), ?_⟩
    rw [nI_clamp (by omega), m11, m6, m10, bt_t _ (i := W 3 i) (by omega)]
    have e1 : nI (W 8 i) = (1 : Int32) ↔ W 8 i = 1 := nI_eq (b := 1) (by omega) (by omega)
    rw [e1]
    refine ⟨fun c => stay (by unfold mOn; simp [c]), fun c => ⟨fun c2 => stay (by unfold mOn; simp [c2]), fun c2 => ?_⟩⟩
    have on : mOn W S i = true := by unfold mOn; simp [c, c2]
    rw [nI_leI (by omega) (by omega)]
    refine ⟨fun c3 => go _ ?_, fun c3 => go _ ?_⟩
    · rw [mh_s, if_neg (fun q => by omega)]
    · rw [mh_s, if_pos ⟨on, by omega⟩]
theorem sR_wear {W : Vw} {ρ : St} (hv : Iv W) (hS : SR W ρ) {k : Nat} (hk : k < W 0 4) {b : By} {n t : Nat} {L0 L1 L2 : List Int32} (hg : TH b n t L0 L1 L2 ρ) {post : Int32 → St → Prop} (h : ∀ τ, RG ρ τ → post (we W k L0) τ) : wX12_wearOf (nI k) ρ post := by
  have hc := hv.c
  have hR := hS.1
  have hb := hv.b hk
  obtain ⟨r13, r14, r15, r18, r19, -⟩ := hR.b hk
  refine ⟨vin (by omega) (by omega), ?_⟩
  rw [nI_clamp (by omega), r19, r15]
  have e1 : nI (W 14 k) = (1 : Int32) ↔ W 14 k = 1 := nI_eq (b := 1) (by omega) (by omega)
  rw [e1]
  refine ⟨fun off => sR_wear30 hv hS hk hg ?_ h, fun on => sR_from hv hR hb.2.2.1 (sR_wear30 hv hS hk hg ?_ h)⟩
  · unfold ho
    refine mh_cg (fun m hm => ?_)
    unfold mOn
    rw [bt_0]
    simp [off]
  · unfold ho
    exact mh_cg (fun m hm => by rw [mOn_F hv _ hm]; simp [on])
