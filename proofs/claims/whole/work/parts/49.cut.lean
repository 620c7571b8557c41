/-! PURE: cut -/
/-- what a cut costs, by the text's steps -/
def co (L2 : List Int32) (s : Nat) : Int32 := cl 1 999 (val (nm6 0 0 0 0 (nI s) 0) L2)
theorem sX_cost {ids : List Nat} {σ : St} {s t : Nat} {L0 L1 L2 : List Int32} (hg : TG t L0 L1 L2 ids σ) {post : Int32 → St → Prop} (h : ∀ τ, EqS σ τ → post (co L2 s) τ) : wX11_cost ids (nI s) σ post := by
  have z4 : (4 : Int32).toNatClampNeg = 4 := by decide
  unfold wX11_cost
  rintro _ rfl
  refine lpc1 (wJ7_fill_53178_5 ids 15 6 _ 0 (Int32.ofNat 6)) 6 (by decide) (fun i τ => EqS σ τ ∧ ∀ j, j < i → gI τ 15 j = 0) ?_ ?_ σ ⟨EqS.rf σ, fun j hj => absurd hj (Nat.not_lt_zero _)⟩
  · rintro N τ ⟨e, q⟩
    rw [wJ7_fill_53178_5_s]
    refine dt (by decide) ⟨vin (i := 4) (by omega) (by omega), ?_⟩
    intro s1 e1
    obtain ⟨E1, n1, o1⟩ := nmw z4 e1
    have E := e.tr E1
    refine sX_tell (k := 2) (hg.x E.1) (by decide) (nm := nm6 0 0 0 0 (nI s) 0) (nm6_ok ?_ ?_ ?_ ?_ n1 ?_) (fun υ Eu => ?_)
    · rw [o1 0 (by omega)]; exact q 0 (by omega)
    · rw [o1 1 (by omega)]; exact q 1 (by omega)
    · rw [o1 2 (by omega)]; exact q 2 (by omega)
    · rw [o1 3 (by omega)]; exact q 3 (by omega)
    · rw [o1 5 (by omega)]; exact q 5 (by omega)
    · rw [cl_X (lo := 1) (hi := 999) (by decide)]
      exact h υ (E.tr Eu)
  · rintro N i τ hi ⟨e, q⟩ kk
    rw [wJ7_fill_53178_5_s]
    have e6 : (Int32.ofNat 6 ≤ nI i) ↔ 6 ≤ i := nI_leI (a := 6) (by omega) (by omega)
    rw [e6]
    refine df (by omega) ⟨vin hi (by omega), ?_⟩
    rw [nI_clamp (by omega)]
    rintro _ rfl _ rfl
    rw [nI_1]
    refine kk _ ⟨e.uI (by unfold scX; omega) (by omega), fun j hj => ?_⟩
    rcases Nat.lt_or_ge j i with g | g
    · rw [gI_o (by omega)]; exact q j g
    · have : j = i := by omega
      subst this
      exact gI_s
theorem sR_cost {b : By} {n t s : Nat} {L0 L1 L2 : List Int32} {ρ : St} (hg : TH b n t L0 L1 L2 ρ) {post : Int32 → St → Prop} (h : ∀ τ, RG ρ τ → post (co L2 s) τ) : wX12_wantOf (nI s) ρ post := by
  unfold wX12_wantOf
  exact sR_tell (k := 2) hg (by decide) (fun τ g => sR_within (h τ g))
/-- the best size among 1 .. n -/
def bC (f : Nat → Nat) (g : Nat → Int32) (n : Nat) : Nat × Nat × Int32 := match n with
  | 0 => (0, 0, 0)
  | n + 1 => if n = 0 ∨ (bC f g n).2.1 < f (n + 1) ∨ ((bC f g n).2.1 = f (n + 1) ∧ ¬ (bC f g n).2.2 ≤ g (n + 1)) then (n + 1, f (n + 1), g (n + 1)) else bC f g n
theorem bC_y {f : Nat → Nat} {g : Nat → Int32} {n : Nat} (h : n = 0 ∨ (bC f g n).2.1 < f (n + 1) ∨ ((bC f g n).2.1 = f (n + 1) ∧ ¬ (bC f g n).2.2 ≤ g (n + 1))) : bC f g (n + 1) = (n + 1, f (n + 1), g (n + 1)) := by
  conv => lhs; unfold bC
  rw [if_pos h]
theorem bC_n {f : Nat → Nat} {g : Nat → Int32} {n : Nat} (h : ¬ (n = 0 ∨ (bC f g n).2.1 < f (n + 1) ∨ ((bC f g n).2.1 = f (n + 1) ∧ ¬ (bC f g n).2.2 ≤ g (n + 1)))) : bC f g (n + 1) = bC f g n := by
  conv => lhs; unfold bC
  rw [if_neg h]
theorem bC_r {f : Nat → Nat} {g : Nat → Int32} (hf : ∀ s, f s ≤ 100) : ∀ n, (bC f g n).1 ≤ n ∧ (bC f g n).2.1 ≤ 100 := by
  intro n
  induction n with
  | zero => exact ⟨Nat.le_refl _, Nat.zero_le _⟩
  | succ n ih =>
    by_cases h : n = 0 ∨ (bC f g n).2.1 < f (n + 1) ∨ ((bC f g n).2.1 = f (n + 1) ∧ ¬ (bC f g n).2.2 ≤ g (n + 1))
    · rw [bC_y h]
      exact ⟨Nat.le_refl _, hf _⟩
    · rw [bC_n h]
      exact ⟨by omega, ih.2⟩
def cwl (W : Vw) (k s : Nat) : Nat := ct (W 0 3) (mW (wu W 16 k s))
/-- the answer of cut -/
def cutA (W : Vw) (k : Nat) (L2 : List Int32) (what : Int32) : Int32 := if what = 0 then nI (bC (cwl W k) (co L2) 99).1 else if what = 1 then nI (bC (cwl W k) (co L2) 99).2.1 else (bC (cwl W k) (co L2) 99).2.2
theorem cwl_le {W : Vw} (hv : Iv W) (k s : Nat) : cwl W k s ≤ 100 := by
  have := hv.c
  have := ct_le (W 0 3) (mW (wu W 16 k s))
  unfold cwl
  omega
theorem sX_cut {W : Vw} {ids : List Nat} {σ : St} (hv : Iv W) (hM : MX W ids σ) {t : Nat} {L0 L1 L2 : List Int32} (hg : TG t L0 L1 L2 ids σ) {k : Nat} (hk : k < W 0 4) (a2 : Int32) {post : Int32 → St → Prop} (h : ∀ τ, EqX σ τ → post (cutA W k L2 a2) τ) : ∃ N, wX11_cut_48 ids post a2 (bO W k) (nI (W 16 k)) N 0 (-1) 0 1 σ := by
  have hc := hv.c
  have hr := bO_r hv hk
  have hb := hv.b hk
  have nsc : ¬ scX (bO W k) 7 := by unfold scX; omega
  have hrec : gI σ (bO W k) 7 = nI (W 16 k) := (hM.b hk).2.2.2.2.2.2.2.1
  refine lpq1 (A1 := Int32 × Int32 × Int32 × Int32) (fun N a τ => wX11_cut_48 ids post a2 (bO W k) (nI (W 16 k)) N a.1 a.2.1 a.2.2.1 a.2.2.2 τ) (fun m a τ => ∃ n, n ≤ 99 ∧ m = 99 - n ∧ a.2.2.2 = nI (n + 1) ∧ ((n = 0 ∧ a.1 = 0 ∧ a.2.1 = -1 ∧ a.2.2.1 = 0) ∨ (1 ≤ n ∧ a.1 = nI (bC (cwl W k) (co L2) n).1 ∧ a.2.1 = nI (bC (cwl W k) (co L2) n).2.1 ∧ a.2.2.1 = (bC (cwl W k) (co L2) n).2.2)) ∧ (∃ v, EqX (uI σ (bO W k) 7 v) τ)) ?_ 99 (0, -1, 0, 1) σ ⟨0, by omega, rfl, rfl, Or.inl ⟨rfl, rfl, rfl, rfl⟩, nI (W 16 k), ⟨fun _ _ => rfl, fun c j _ => ?_⟩⟩
  rotate_left
  · rw [gI_uI]
    split
    · rename_i q
      rw [q.1, q.2]; exact hrec
    · rfl
  rintro N m ⟨x5, x6, x7, x8⟩ τ ⟨n, hn, rfl, e8, hst, v, hE⟩ kk
  simp only at e8 hst
  subst e8
  show wX11_cut_48 ids post a2 (bO W k) (nI (W 16 k)) (N + 1) x5 x6 x7 (nI (n + 1)) τ
  rw [wX11_cut_48_s]
  have e99 : ((99 : Int32) < nI (n + 1)) ↔ 99 < n + 1 := nI_ltI (a := 99) (by omega) (by omega)
  rw [e99]
  have back : ∀ x, EqX (uI σ (bO W k) 7 x) (uI τ (bO W k) 7 x) := fun x => by
    refine ⟨hE.1, fun c j hs => ?_⟩
    rw [gI_uI, gI_uI]
    split
    · rfl
    · rename_i q
      rw [hE.2 c j hs, gI_uI, if_neg q]
  refine ⟨fun g => ?_, fun g => ?_⟩
  · have n99 : n = 99 := by omega
    subst n99
    rintro _ rfl
    have E : EqX σ (uI τ (bO W k) 7 (nI (W 16 k))) := by
      refine ⟨hE.1, fun c j hs => ?_⟩
      rw [(back _).2 c j hs, gI_uI]
      split
      · rename_i q
        rw [q.1, q.2]; exact hrec.symm
      · rfl
    have h' := h _ E
    rcases hst with ⟨z, -⟩ | ⟨-, s1, s2, s3⟩
    · omega
    unfold cutA at h'
    rw [← s1, ← s2, ← s3] at h'
    refine ⟨fun c => ⟨fun c2 => ?_, fun c2 => ?_⟩, fun c => ?_⟩
    · rw [if_neg c, if_neg c2] at h'; exact h'
    · rw [if_neg c, if_pos c2] at h'; exact h'
    · rw [if_pos c] at h'; exact h'
  · rintro _ rfl
    have hvs : Iv (wu W 16 k (n + 1)) := hv.size (e := 1) (by omega) k (by omega) (by omega)
    have hMs : MX (wu W 16 k (n + 1)) ids (uI τ (bO W k) 7 (nI (n + 1))) := (hM.one hv (n + 1) (Or.inr ⟨hk, rfl, Or.inr (Or.inr ⟨rfl, rfl⟩)⟩)).eq hvs (back _)
    have e3 : wu W 16 k (n + 1) 0 3 = W 0 3 := rfl
    refine sX_spin8 hvs hMs (fun υ he hS => sX_wellRunning hvs hS (sJ6_bitCount ?_))
    rw [e3, bc_bs (by omega)]
    have Eu : EqX (uI σ (bO W k) 7 (nI (n + 1))) υ := (back _).tr he.x
    have hgu : TG t L0 L1 L2 ids υ := by
      have := hg.2.2.1
      refine hg.eq (fun c j hcj => ?_)
      rw [Eu.2 c j (by unfold scX; omega), gI_o (by omega)]
    refine sX_cost hgu (fun υ2 e2 => ?_)
    have E2 : ∃ v, EqX (uI σ (bO W k) 7 v) υ2 := ⟨_, Eu.tr e2.1⟩
    have take : bC (cwl W k) (co L2) (n + 1) = (n + 1, cwl W k (n + 1), co L2 (n + 1)) → wX11_cut_109 ids (fun a b c d s => wX11_cut_48 ids post a2 (bO W k) (nI (W 16 k)) N a b c d s) post a2 (bO W k) (nI (W 16 k)) (nI (n + 1)) (nI (ct (W 0 3) (mW (wu W 16 k (n + 1))))) (co L2 (n + 1)) υ2 := by
      rintro e _ rfl
      rw [nI_1]
      have f1 : nI (n + 1) = nI (bC (cwl W k) (co L2) (n + 1)).1 := by rw [e]
      have f2 : nI (ct (W 0 3) (mW (wu W 16 k (n + 1)))) = nI (bC (cwl W k) (co L2) (n + 1)).2.1 := by rw [e]; rfl
      have f3 : co L2 (n + 1) = (bC (cwl W k) (co L2) (n + 1)).2.2 := by rw [e]
      exact kk (99 - (n + 1)) (nI (n + 1), nI (ct (W 0 3) (mW (wu W 16 k (n + 1)))), co L2 (n + 1), nI (n + 1 + 1)) υ2 ⟨n + 1, by omega, rfl, rfl, Or.inr ⟨by omega, f1, f2, f3⟩, E2⟩ (by omega)
    have keep : 1 ≤ n → bC (cwl W k) (co L2) (n + 1) = bC (cwl W k) (co L2) n → wX11_cut_121 ids (fun a b c d s => wX11_cut_48 ids post a2 (bO W k) (nI (W 16 k)) N a b c d s) post a2 (bO W k) (nI (W 16 k)) x5 x6 x7 (nI (n + 1)) υ2 := by
      rintro h1 e _ rfl
      rw [nI_1]
      refine kk (99 - (n + 1)) (_, _, _, _) υ2 ⟨n + 1, by omega, rfl, rfl, Or.inr ⟨by omega, ?_⟩, E2⟩ (by omega)
      rcases hst with ⟨z, -⟩ | ⟨-, s1, s2, s3⟩
      · omega
      · rw [e]; exact ⟨s1, s2, s3⟩
    have ew : ct (W 0 3) (mW (wu W 16 k (n + 1))) = cwl W k (n + 1) := rfl
    have hw := cwl_le hv k (n + 1)
    rcases hst with ⟨z, s1, s2, s3⟩ | ⟨h1, s1, s2, s3⟩
    · subst z
      refine dt ?_ (take (bC_y (Or.inl rfl)))
      rw [s2, ew, fb_lt, fb_nI (by omega)]
      have : (-1 : Int32).toInt = -1 := by decide
      omega
    · have hr2 := (bC_r (f := cwl W k) (g := co L2) (cwl_le hv k) n).2
      have c1 : x6 < nI (ct (W 0 3) (mW (wu W 16 k (n + 1)))) ↔ (bC (cwl W k) (co L2) n).2.1 < cwl W k (n + 1) := by
        rw [s2, ew]
        exact nI_ltI (by omega) (by omega)
      have c2 : nI (ct (W 0 3) (mW (wu W 16 k (n + 1)))) = x6 ↔ cwl W k (n + 1) = (bC (cwl W k) (co L2) n).2.1 := by
        rw [s2, ew]
        exact nI_eq (by omega) (by omega)
      rw [c1, c2]
      refine ⟨fun y => take (bC_y (Or.inr (Or.inl y))), fun y => ⟨fun y2 => keep h1 (bC_n ?_), fun y2 => ?_⟩⟩
      · rintro (q | q | q)
        · omega
        · exact y q
        · exact y2 q.1.symm
      · rw [s3] at keep ⊢
        refine ⟨fun y3 => keep h1 (bC_n ?_), fun y3 => take (bC_y (Or.inr (Or.inr ⟨y2.symm, y3⟩)))⟩
        rintro (q | q | q)
        · omega
        · exact y q
        · exact q.2 y3
theorem MR.cut {W : Vw} {ρ : St} (h : MR W ρ) (h29 : gI ρ 0 29 = -1) {k : Nat} (hk : k < W 0 4) (h4 : W 0 4 ≤ 7) (s : Nat) : MR (wu W 16 k s) (uI (uI ρ 0 29 (nI k)) 0 30 (nI s)) := by
  have g : ∀ c j, ¬ (c = 0 ∧ (j = 29 ∨ j = 30)) → gI (uI (uI ρ 0 29 (nI k)) 0 30 (nI s)) c j = gI ρ c j := fun c j hn => by rw [gI_o (by omega), gI_o (by omega)]
  have g29 : gI (uI (uI ρ 0 29 (nI k)) 0 30 (nI s)) 0 29 = nI k := by rw [gI_o (by omega), gI_s]
  have g30 : gI (uI (uI ρ 0 29 (nI k)) 0 30 (nI s)) 0 30 = nI s := gI_s
  have w : ∀ x y, ¬ (x = 16 ∧ y = k) → wu W 16 k s x y = W x y := fun x y hn => wu_o hn
  refine ⟨?_, fun i hi => ?_, fun m hm => ?_, fun j hj => ?_⟩
  · rw [g 0 9 (by omega), g 0 18 (by omega), g 0 28 (by omega), g 0 10 (by omega), g 0 11 (by omega)]
    exact h.1
  · rw [g _ _ (by omega), g _ _ (by omega)]
    exact h.s hi
  · rw [g 6 m (by omega), g 8 m (by omega), g 9 m (by omega), g 7 m (by omega), g 10 m (by omega), g 11 m (by omega), g 0 34 (by omega), g 0 35 (by omega)]
    exact h.m hm
  · have hj' : j < W 0 4 := hj
    obtain ⟨b1, b2, b3, b4, b5, ⟨d, hd, b6, b7⟩, b8, b9⟩ := h.b hj'
    rw [g 13 j (by omega), g 14 j (by omega), g 15 j (by omega), g 18 j (by omega), g 19 j (by omega), g 16 j (by omega), g 17 j (by omega), g29, g30]
    refine ⟨b1, b2, b3, b4, b5, ⟨d, hd, b6, ?_⟩, fun hne => ?_, fun he => ?_⟩
    · rw [g 12 d (by omega)]; exact b7
    · have nk : ¬ j = k := fun z => hne (by rw [z])
      obtain ⟨d2, hd2, c1, c2⟩ := b8 (by rw [h29]; exact ne_m1 (by omega))
      refine ⟨d2, hd2, c1, ?_⟩
      rw [g 12 d2 (by omega), w 16 j (by omega)]
      exact c2
    · have : j = k := nI_inj (by omega) (by omega) he
      subst this
      rw [wu_s]
theorem MR.c30 {W : Vw} {ρ : St} (h : MR W ρ) (h29 : gI ρ 0 29 = -1) (h4 : W 0 4 ≤ 7) (v : Int32) : MR W (uI ρ 0 30 v) := by
  have g : ∀ c j, ¬ (c = 0 ∧ j = 30) → gI (uI ρ 0 30 v) c j = gI ρ c j := fun c j hn => gI_o hn
  refine ⟨?_, fun i hi => ?_, fun m hm => ?_, fun j hj => ?_⟩
  · rw [g 0 9 (by omega), g 0 18 (by omega), g 0 28 (by omega), g 0 10 (by omega), g 0 11 (by omega)]
    exact h.1
  · rw [g _ _ (by omega), g _ _ (by omega)]
    exact h.s hi
  · rw [g 6 m (by omega), g 8 m (by omega), g 9 m (by omega), g 7 m (by omega), g 10 m (by omega), g 11 m (by omega), g 0 34 (by omega), g 0 35 (by omega)]
    exact h.m hm
  · obtain ⟨b1, b2, b3, b4, b5, ⟨d, hd, b6, b7⟩, b8, b9⟩ := h.b hj
    rw [g 13 j (by omega), g 14 j (by omega), g 15 j (by omega), g 18 j (by omega), g 19 j (by omega), g 16 j (by omega), g 17 j (by omega), g 0 29 (by omega)]
    refine ⟨b1, b2, b3, b4, b5, ⟨d, hd, b6, ?_⟩, fun hne => ?_, fun he => ?_⟩
    · rw [g 12 d (by omega)]; exact b7
    · obtain ⟨d2, hd2, c1, c2⟩ := b8 hne
      exact ⟨d2, hd2, c1, by rw [g 12 d2 (by omega)]; exact c2⟩
    · rw [h29] at he
      exact absurd he (ne_m1 (by omega))
theorem RW.c30 {W : Vw} {ids : List Nat} {σ ρ : St} (h : RW W ids σ ρ) (v : Int32) : RW W ids σ (uI ρ 0 30 v) := by
  have hc := h.iv.c
  obtain ⟨h1, h2, ⟨m, d, i, q⟩, h4, h5⟩ := h
  refine ⟨h1, h2, ⟨m.c30 d.2.2.2.1 (by omega) v, d.fr (fun _ _ _ => rfl) (fun c k hk => ?_), i.fr (fun _ _ _ => rfl) (fun c k hk => ?_), q.fr (fun _ _ _ => rfl) (fun c k hk => ?_)⟩, fun t ht => ?_, fun s hs => ?_⟩
  · unfold qD at hk; exact gI_o (by omega)
  · unfold qI at hk; exact gI_o (by omega)
  · unfold qT at hk; exact gI_o (by omega)
  · exact (h4 t ht).cg (fun _ => rfl) (fun _ => rfl) (fun k => gI_o (by omega)) (fun k => gI_o (by omega))
  · exact (h5 s hs).cg (fun _ => rfl) (fun _ => rfl) (gI_o (by omega)) (gI_o (by omega)) (gI_o (by omega)) (fun k _ => gI_o (by omega))
theorem sR_cut {W : Vw} {ρ : St} (hv : Iv W) (hR : MR W ρ) (h29 : gI ρ 0 29 = -1) {b : By} {nn t : Nat} {L0 L1 L2 : List Int32} (hg : TH b nn t L0 L1 L2 ρ) {k : Nat} (hk : k < W 0 4) (a2 : Int32) {post : Int32 → St → Prop} (h : ∀ v τ, EqR (uI ρ 0 30 v) τ → post (cutA W k L2 a2) τ) : ∃ N, wX12_cut_39 post a2 N (-1) 0 0 1 (uI ρ 0 29 (nI k)) := by
  have hc := hv.c
  refine lpq1 (A1 := Int32 × Int32 × Int32 × Int32) (fun N a τ => wX12_cut_39 post a2 N a.1 a.2.1 a.2.2.1 a.2.2.2 τ) (fun m a τ => ∃ n, n ≤ 99 ∧ m = 99 - n ∧ a.2.2.2 = nI (n + 1) ∧ ((n = 0 ∧ a.1 = -1 ∧ a.2.1 = 0 ∧ a.2.2.1 = 0) ∨ (1 ≤ n ∧ a.1 = nI (bC (cwl W k) (co L2) n).1 ∧ a.2.1 = nI (bC (cwl W k) (co L2) n).2.1 ∧ a.2.2.1 = (bC (cwl W k) (co L2) n).2.2)) ∧ (∃ v, EqR (uI (uI ρ 0 29 (nI k)) 0 30 v) τ)) ?_ 99 (-1, 0, 0, 1) (uI ρ 0 29 (nI k)) ⟨0, by omega, rfl, rfl, Or.inl ⟨rfl, rfl, rfl, rfl⟩, gI ρ 0 30, fun c j _ => ?_⟩
  rotate_left
  · rw [gI_uI (uI ρ 0 29 (nI k))]
    split
    · rename_i q
      rw [q.1, q.2, gI_o (by omega)]
    · rfl
  rintro N m ⟨x3, x4, x5, x6⟩ τ ⟨n, hn, rfl, e6, hst, v, hE⟩ kk
  simp only at e6 hst
  subst e6
  show wX12_cut_39 post a2 (N + 1) x3 x4 x5 (nI (n + 1)) τ
  rw [wX12_cut_39_s]
  have e99 : ((99 : Int32) < nI (n + 1)) ↔ 99 < n + 1 := nI_ltI (a := 99) (by omega) (by omega)
  rw [e99]
  have back : ∀ x, EqR (uI (uI ρ 0 29 (nI k)) 0 30 x) (uI τ 0 30 x) := fun x c j hs => by
    rw [gI_uI, gI_uI (uI ρ 0 29 (nI k))]
    split
    · rfl
    · rename_i q
      rw [hE c j hs, gI_uI, if_neg q]
  refine ⟨fun g => ?_, fun g => ?_⟩
  · have n99 : n = 99 := by omega
    subst n99
    rintro _ rfl
    have E : EqR (uI ρ 0 30 v) (uI τ 0 29 (-1)) := fun c j hs => by
      by_cases q : c = 0 ∧ j = 29
      · rw [q.1, q.2, gI_s, gI_o (by omega), h29]
      · rw [gI_o q, hE c j hs]
        by_cases q2 : c = 0 ∧ j = 30
        · rw [q2.1, q2.2, gI_s, gI_s]
        · rw [gI_o q2, gI_o q2, gI_o q]
    have h' := h v _ E
    rcases hst with ⟨z, -⟩ | ⟨-, s1, s2, s3⟩
    · omega
    unfold cutA at h'
    rw [← s1, ← s2, ← s3] at h'
    refine ⟨fun c => ⟨fun c2 => ?_, fun c2 => ?_⟩, fun c => ?_⟩
    · rw [if_neg c, if_neg c2] at h'; exact h'
    · rw [if_neg c, if_pos c2] at h'; exact h'
    · rw [if_pos c] at h'; exact h'
  · rintro _ rfl
    have hvs : Iv (wu W 16 k (n + 1)) := hv.size (e := 1) (by omega) k (by omega) (by omega)
    have hRs : MR (wu W 16 k (n + 1)) (uI τ 0 30 (nI (n + 1))) := (hR.cut h29 hk (by omega) (n + 1)).eq (back _)
    refine sR_wells hvs hRs (fun υ he hS => ?_)
    have Eu : EqR (uI (uI ρ 0 29 (nI k)) 0 30 (nI (n + 1))) υ := (back _).tr he
    have hgu : TH b nn t L0 L1 L2 υ := hg.eq (fun c j hcj => by rw [Eu c j (by unfold scR; omega), gI_o (by omega), gI_o (by omega)])
    refine sR_cost hgu (fun υ2 e2 => ?_)
    have E2 : ∃ v, EqR (uI (uI ρ 0 29 (nI k)) 0 30 v) υ2 := ⟨_, Eu.tr e2.x⟩
    have ew : ct (wu W 16 k (n + 1) 0 3) (mW (wu W 16 k (n + 1))) = cwl W k (n + 1) := rfl
    rw [ew]
    have take : bC (cwl W k) (co L2) (n + 1) = (n + 1, cwl W k (n + 1), co L2 (n + 1)) → wX12_cut_95 (fun a b c d s => wX12_cut_39 post a2 N a b c d s) post a2 (nI (n + 1)) (nI (cwl W k (n + 1))) (co L2 (n + 1)) υ2 := by
      rintro e _ rfl
      rw [nI_1]
      have f1 : nI (n + 1) = nI (bC (cwl W k) (co L2) (n + 1)).1 := by rw [e]
      have f2 : nI (cwl W k (n + 1)) = nI (bC (cwl W k) (co L2) (n + 1)).2.1 := by rw [e]
      have f3 : co L2 (n + 1) = (bC (cwl W k) (co L2) (n + 1)).2.2 := by rw [e]
      exact kk (99 - (n + 1)) (nI (n + 1), nI (cwl W k (n + 1)), co L2 (n + 1), nI (n + 1 + 1)) υ2 ⟨n + 1, by omega, rfl, rfl, Or.inr ⟨by omega, f1, f2, f3⟩, E2⟩ (by omega)
    have keep : 1 ≤ n → bC (cwl W k) (co L2) (n + 1) = bC (cwl W k) (co L2) n → wX12_cut_106 (fun a b c d s => wX12_cut_39 post a2 N a b c d s) post a2 x3 x4 x5 (nI (n + 1)) υ2 := by
      rintro h1 e _ rfl
      rw [nI_1]
      refine kk (99 - (n + 1)) (_, _, _, _) υ2 ⟨n + 1, by omega, rfl, rfl, Or.inr ⟨by omega, ?_⟩, E2⟩ (by omega)
      rcases hst with ⟨z, -⟩ | ⟨-, s1, s2, s3⟩
      · omega
      · rw [e]; exact ⟨s1, s2, s3⟩
    have hw := cwl_le hv k (n + 1)
    rcases hst with ⟨z, s1, s2, s3⟩ | ⟨h1, s1, s2, s3⟩
    · subst z
      exact dt s1 (take (bC_y (Or.inl rfl)))
    · have hr1 := bC_r (f := cwl W k) (g := co L2) (cwl_le hv k) n
      have c0 : ¬ x3 = -1 := by rw [s1]; exact ne_m1 (by omega)
      have c1 : nI (cwl W k (n + 1)) < x4 ↔ cwl W k (n + 1) < (bC (cwl W k) (co L2) n).2.1 := by
        rw [s2]
        exact nI_ltI (by omega) (by omega)
      have c2 : nI (cwl W k (n + 1)) = x4 ↔ cwl W k (n + 1) = (bC (cwl W k) (co L2) n).2.1 := by
        rw [s2]
        exact nI_eq (by omega) (by omega)
      rw [c1, c2]
      refine df c0 ⟨fun y => keep h1 (bC_n ?_), fun y => ⟨fun y2 => take (bC_y (Or.inr (Or.inl (by omega)))), fun y2 => ?_⟩⟩
      · rintro (q | q | q) <;> omega
      · rw [s3] at keep ⊢
        refine ⟨fun y3 => take (bC_y (Or.inr (Or.inr ⟨y2.symm, fun q => ?_⟩))), fun y3 => keep h1 (bC_n ?_)⟩
        · rw [fb_lt] at y3
          rw [fb_le] at q
          omega
        · rintro (q | q | q)
          · omega
          · omega
          · refine q.2 ?_
            rw [fb_lt] at y3
            rw [fb_le]
            omega
theorem pc_cut {ids : List Nat} {σ ρ : St} (a1 : Int32) (a2 : Int32) (h : Rel ids σ ρ) : wX11_cut ids a1 a2 σ (fun r σ1 => wX12_cut a1 a2 ρ (fun r2 ρ1 => r = r2 ∧ Rel ids σ1 ρ1)) := by
  obtain ⟨-, W, h⟩ := h
  have hv := h.iv
  have hc := hv.c
  obtain ⟨b, n, L0, L1, L2, hg, hh⟩ := h.tg
  refine sX_isBelt hv h.mx a1 (bI_d (fun c => ?_) (fun c => ?_))
  · refine sR_isBelt hv h.mr a1 ?_
    rw [c]
    exact dt rfl ⟨rfl, h.rel⟩
  obtain ⟨k, hk, rfl⟩ := wi_n (by omega) c
  refine sX_within 0 2 rfl rfl (bI_e (fun c2 => ?_) (fun c2 => ?_))
  · refine sR_isBelt hv h.mr _ ?_
    rw [c]
    refine df (by decide) (sR_inI 0 2 rfl rfl ?_)
    rw [c2]
    exact dn rfl ⟨rfl, h.rel⟩
  · refine ⟨vin (by omega) (by omega), bO W k, ?_, h.mx.okB hv hk, ?_⟩
    · rw [nI_clamp (by omega)]; exact (h.mx.b hk).1
    rintro _ rfl
    rw [(h.mx.b hk).2.2.2.2.2.2.2.1]
    refine sX_cut hv h.mx hg hk a2 (fun τ e => ?_)
    refine sR_isBelt hv h.mr _ ?_
    rw [c]
    refine df (by decide) (sR_inI 0 2 rfl rfl ?_)
    rw [c2]
    refine dm (by decide) ?_
    rintro _ rfl
    exact sR_cut hv h.mr h.dr.2.2.2.1 hh hk a2 (fun v υ eu => ⟨rfl, ((h.c30 v).eq e eu).rel⟩)
