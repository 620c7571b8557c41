/-! PURE: years -/
def dy (W : Vw) (L0 : List Int32) (a : Int32) (k : Nat) : Int32 := if we W k L0 = 0 then -1 else (a + we W k L0 - 1) / we W k L0
theorem sX_days {W : Vw} {ids : List Nat} {σ : St} (hv : Iv W) (hS : SX W ids σ) {k : Nat} (hk : k < W 0 4) {t : Nat} {L0 L1 L2 : List Int32} (hg : TG t L0 L1 L2 ids σ) (a : Int32) {post : Int32 → St → Prop} (h : ∀ τ, EqS σ τ → post (dy W L0 a k) τ) : wX11_days ids (bO W k) a σ post := by
  refine sX_wear hv hS hk hg (fun τ e => ?_)
  have h' := h τ e
  unfold dy at h'
  refine ⟨fun c => ⟨c, ?_⟩, fun c => ?_⟩
  · rw [if_neg c] at h'; exact h'
  · rw [if_pos c] at h'; exact h'
theorem sR_days {W : Vw} {ρ : St} (hv : Iv W) (hS : SR W ρ) {k : Nat} (hk : k < W 0 4) {b : By} {n t : Nat} {L0 L1 L2 : List Int32} (hg : TH b n t L0 L1 L2 ρ) (a : Int32) {post : Int32 → St → Prop} (h : ∀ τ, RG ρ τ → post (dy W L0 a k) τ) : wX12_daysOf (nI k) a ρ post := by
  refine sR_wear hv hS hk hg (fun τ e => ?_)
  have h' := h τ e
  unfold dy at h'
  refine ⟨fun c => ⟨c, ?_⟩, fun c => ?_⟩
  · rw [if_neg c] at h'; exact h'
  · rw [if_pos c] at h'; exact h'
/-- the belt that is worn first -/
def bY (f : Nat → Int32) (n : Nat) : Option Nat := match n with
  | 0 => none
  | n + 1 => if f n = -1 then bY f n else match bY f n with
    | none => some n
    | some q => if f q ≤ f n then some q else some n
theorem bY_k {f : Nat → Int32} {n : Nat} (h : f n = -1) : bY f (n + 1) = bY f n := by
  conv => lhs; unfold bY
  rw [if_pos h]
theorem bY_n {f : Nat → Int32} {n : Nat} (h : ¬ f n = -1) (e : bY f n = none) : bY f (n + 1) = some n := by
  conv => lhs; unfold bY
  rw [if_neg h, e]
theorem bY_s {f : Nat → Int32} {n q : Nat} (h : ¬ f n = -1) (e : bY f n = some q) : bY f (n + 1) = if f q ≤ f n then some q else some n := by
  conv => lhs; unfold bY
  rw [if_neg h, e]
theorem bY_lt {f : Nat → Int32} : ∀ n q, bY f n = some q → q < n := by
  intro n
  induction n with
  | zero => intro q e; exact absurd e (by simp [bY])
  | succ n ih =>
    intro q e
    by_cases c : f n = -1
    · rw [bY_k c] at e
      have := ih q e
      omega
    · cases en : bY f n with
      | none =>
        rw [bY_n c en] at e
        have := Option.some.inj e
        omega
      | some q' =>
        rw [bY_s c en] at e
        have := ih q' en
        split at e
        · have := Option.some.inj e
          omega
        · have := Option.some.inj e
          omega
theorem oI_n {o : Option Nat} (h : ∀ q, o = some q → q < 100) : oI o = -1 ↔ o = none := by
  cases o with
  | none => exact ⟨fun _ => rfl, fun _ => rfl⟩
  | some q =>
    have := h q rfl
    exact ⟨fun z => absurd z (ne_m1 (by omega)), fun z => absurd z (by simp)⟩
theorem sX_firstWorn {W : Vw} {ids : List Nat} {σ : St} (hv : Iv W) (hS : SX W ids σ) {t : Nat} {L0 L1 L2 : List Int32} (hg : TG t L0 L1 L2 ids σ) (a : Int32) {post : Int32 → St → Prop} (h : ∀ τ, EqS σ τ → post (oI (bY (dy W L0 a) (W 0 4))) τ) : wX11_firstWorn ids a σ post := by
  have hc := hv.c
  refine lpc3 (wX11_firstWorn_7 ids post a) (W 0 4) (by omega) (fun i v w τ => EqS σ τ ∧ v = oI (bY (dy W L0 a) i) ∧ ∀ q, bY (dy W L0 a) i = some q → w = dy W L0 a q) ?_ ?_ (-1) 0 σ ⟨EqS.rf σ, rfl, fun q e => absurd e (by simp [bY])⟩
  · rintro N v w τ ⟨e, rfl, -⟩
    rw [wX11_firstWorn_7_s]
    exact dt (by rw [(hS.eq hv e).1.bs]; exact nI_le (Nat.le_refl _) (by omega)) (h τ e)
  · rintro N i v w τ hi ⟨e, rfl, hw⟩ kk
    have S := hS.eq hv e
    rw [wX11_firstWorn_7_s]
    refine df (by rw [S.1.bs]; exact nI_ge hi (by omega)) ⟨vin (by omega) (by omega), bO W i, ?_, S.1.okB hv hi, ?_⟩
    · rw [nI_clamp (by omega)]; exact (S.1.b hi).1
    refine sX_days hv S hi (hg.x e.1) a (fun υ e2 => ?_)
    have E2 := e.tr e2
    have on := oI_n (o := bY (dy W L0 a) i) (fun q eq => by have := bY_lt i q eq; omega)
    have keep : bY (dy W L0 a) (i + 1) = bY (dy W L0 a) i → wX11_firstWorn_59 ids (wX11_firstWorn_7 ids post a N) post a (oI (bY (dy W L0 a) i)) w (nI i) υ := by
      rintro ek _ rfl
      rw [nI_1]
      exact kk _ _ _ ⟨E2, by rw [ek], fun q eq => hw q (by rw [← ek]; exact eq)⟩
    have new : bY (dy W L0 a) (i + 1) = some i → wX11_firstWorn_53 ids (wX11_firstWorn_7 ids post a N) post a (nI i) (dy W L0 a i) υ := by
      rintro ek _ rfl
      rw [nI_1]
      refine kk _ _ _ ⟨E2, by rw [ek]; rfl, fun q eq => ?_⟩
      rw [ek] at eq
      rw [Option.some.inj eq]
    rw [on]
    refine ⟨fun c => keep (bY_k c), fun c => ⟨fun c2 => new (bY_n c c2), fun c2 => ?_⟩⟩
    cases eq : bY (dy W L0 a) i with
    | none => exact absurd eq c2
    | some q =>
      rw [hw q eq]
      rw [hw q eq, eq] at keep
      have es := bY_s c eq
      refine ⟨fun c3 => keep (by rw [es, if_pos c3]), fun c3 => new (by rw [es, if_neg c3])⟩
theorem sR_years58 {W : Vw} {ρ : St} (hv : Iv W) (hS : SR W ρ) {b : By} {n t : Nat} {L0 L1 L2 : List Int32} (hg : TH b n t L0 L1 L2 ρ) (a : Int32) {post : Int32 → St → Prop} (h : ∀ τ, RG ρ τ → post (oI (bY (dy W L0 a) (W 0 4))) τ) : ∃ N, wX12_years_58 post a N (-1) 0 ρ := by
  have hc := hv.c
  refine lpc2 (wX12_years_58 post a) (W 0 4) (by omega) (fun i v τ => RG ρ τ ∧ v = oI (bY (dy W L0 a) i)) ?_ ?_ (-1) ρ ⟨RG.rf ρ, rfl⟩
  · rintro N v τ ⟨e, rfl⟩
    rw [wX12_years_58_s]
    exact dt (by rw [(hS.g e).1.bs]; exact nI_le (Nat.le_refl _) (by omega)) (h τ e)
  · rintro N i v τ hi ⟨e, rfl⟩ kk
    have S := hS.g e
    rw [wX12_years_58_s]
    refine df (by rw [S.1.bs]; exact nI_ge hi (by omega)) (sR_days hv S hi (hg.x e.x) a (fun υ e2 => ?_))
    have E2 := e.tr e2
    have on := oI_n (o := bY (dy W L0 a) i) (fun q eq => by have := bY_lt i q eq; omega)
    have keep : ∀ υ, RG ρ υ → bY (dy W L0 a) (i + 1) = bY (dy W L0 a) i → wX12_years_104 (wX12_years_58 post a N) post a (oI (bY (dy W L0 a) i)) (nI i) υ := by
      rintro υ E ek _ rfl
      rw [nI_1]
      exact kk _ _ ⟨E, by rw [ek]⟩
    have new : ∀ υ, RG ρ υ → bY (dy W L0 a) (i + 1) = some i → wX12_years_100 (wX12_years_58 post a N) post a (nI i) υ := by
      rintro υ E ek _ rfl
      rw [nI_1]
      exact kk _ _ ⟨E, by rw [ek]; rfl⟩
    rw [on]
    refine ⟨fun c => keep υ E2 (bY_k c), fun c => ⟨fun c2 => new υ E2 (bY_n c c2), fun c2 => ?_⟩⟩
    cases eq : bY (dy W L0 a) i with
    | none => exact absurd eq c2
    | some q =>
      rw [eq] at keep
      have hq := bY_lt i q eq
      have es := bY_s c eq
      refine sR_days hv (hS.g E2) (k := q) (by omega) (hg.x E2.x) a (fun υ2 e3 => ?_)
      have E3 := E2.tr e3
      refine ⟨fun c3 => keep υ2 E3 (by rw [es, if_pos c3]), fun c3 => new υ2 E3 (by rw [es, if_neg c3])⟩
theorem sR_in2 {ρ : St} {a : Int32} {lo hi : Int64} (y z : Int) (hy : lo.toInt = y) (hz : hi.toInt = z) {post : Int32 → St → Prop} (h1 : wi a.toInt y z = true → post 1 ρ) (h0 : wi a.toInt y z = false → post 0 ρ) : wX12_in a.toInt64 lo hi ρ post := by
  refine sR_inI y z hy hz ?_
  cases e : wi a.toInt y z with
  | true => exact h1 e
  | false => exact h0 e
theorem pc_years {ids : List Nat} {σ ρ : St} (a1 : Int32) (a2 : Int32) (a3 : Int32) (h : Rel ids σ ρ) : wX11_years ids a1 a2 a3 σ (fun r σ1 => wX12_years a1 a2 a3 ρ (fun r2 ρ1 => r = r2 ∧ Rel ids σ1 ρ1)) := by
  obtain ⟨-, W, h⟩ := h
  have hv := h.iv
  have hc := hv.c
  obtain ⟨b, n, L0, L1, L2, hg, hh⟩ := h.tg
  -- the reference
  have rgo : ∀ P : Int32 → St → Prop, (wi a2.toInt 1 999999 = false → P (-2) ρ) → (wi a3.toInt 0 1 = false → P (-2) ρ) → (a3 = 0 → wi a1.toInt 0 ((W 0 4 : Int) - 1) = false → P (-2) ρ) → (wi a2.toInt 1 999999 = true → wi a3.toInt 0 1 = true → (¬ a3 = 0 → ∀ τ, EqR ρ τ → P (oI (bY (dy W L0 a2) (W 0 4))) τ) ∧ (a3 = 0 → ∀ k, k < W 0 4 → a1 = nI k → ∀ τ, EqR ρ τ → P (dy W L0 a2 k) τ)) → wX12_years a1 a2 a3 ρ P := by
    intro P p1 p2 p3 p4
    refine sR_in2 0 1 rfl rfl (fun c3 => df (by decide) ?_) (fun c3 => dt rfl (p2 c3))
    have k22 : (a3 = 0 → ∃ k, k < W 0 4 ∧ a1 = nI k) → wX12_years_22 P a1 a2 a3 ρ := by
      intro hb
      refine sR_in2 1 999999 rfl rfl (fun c2 => dm (by decide) (sR_lays hv h.mr (fun τ e hS => ?_))) (fun c2 => dn rfl (p1 c2))
      obtain ⟨q1, q2⟩ := p4 c2 c3
      refine ⟨fun z => sR_years58 hv hS (hh.x e) a2 (fun υ g => q1 z υ (e.tr g.x)), fun z => ?_⟩
      obtain ⟨k, hk, ek⟩ := hb z
      rw [ek]
      exact sR_days hv hS hk (hh.x e) a2 (fun υ g => q2 z k hk ek υ (e.tr g.x))
    refine ⟨fun z => k22 (fun y => absurd y z), fun z => sR_isBelt hv h.mr a1 (bI_d (fun c => p3 z c) (fun c => k22 (fun _ => wi_n (by omega) c)))⟩
  have fin : ∀ (r : Int32) (σ1 ρ1 : St), EqX σ σ1 → EqR ρ ρ1 → r = r ∧ Rel ids σ1 ρ1 := fun r σ1 ρ1 e1 e2 => ⟨rfl, (h.eq e1 e2).rel⟩
  have f2 : ((-2 : Int32) = -2) ∧ Rel ids σ ρ := ⟨rfl, h.rel⟩
  refine sX_within 1 999999 rfl rfl (bI_d (fun c2 => ?_) (fun c2 => ?_))
  · exact rgo _ (fun _ => f2) (fun _ => f2) (fun _ _ => f2) (fun z _ => by rw [c2] at z; exact Bool.noConfusion z)
  refine sX_within 0 1 rfl rfl (bI_d (fun c3 => ?_) (fun c3 => ?_))
  · exact rgo _ (fun _ => f2) (fun _ => f2) (fun _ _ => f2) (fun _ z => by rw [c3] at z; exact Bool.noConfusion z)
  have n1 : ∀ P : Prop, wi a2.toInt 1 999999 = false → P := fun P z => by rw [c2] at z; exact Bool.noConfusion z
  have n2 : ∀ P : Prop, wi a3.toInt 0 1 = false → P := fun P z => by rw [c3] at z; exact Bool.noConfusion z
  refine ⟨fun z => ?_, fun z => ?_⟩
  · refine sX_spin hv h.mx (fun τ e hS => dm z (sX_firstWorn hv hS (hg.x e) a2 (fun υ e2 => ?_)))
    exact rgo _ (n1 _) (n2 _) (fun y => absurd y z) (fun _ _ => ⟨fun _ τ' eu => fin _ _ _ (e.tr e2.1) eu, fun y => absurd y z⟩)
  · refine sX_isBelt hv h.mx a1 (bI_e (fun c => ?_) (fun c => ?_))
    · exact rgo _ (n1 _) (n2 _) (fun _ _ => f2) (fun _ _ => ⟨fun y => absurd z y, fun _ k hk ek => by
        rw [ek, wi_t (by omega) (by omega) (by omega)] at c
        exact Bool.noConfusion c⟩)
    · obtain ⟨k, hk, ek⟩ := wi_n (by omega) c
      subst ek
      refine sX_spin hv h.mx (fun τ e hS => dn z ⟨vin (by omega) (by omega), bO W k, ?_, hS.1.okB hv hk, ?_⟩)
      · rw [nI_clamp (by omega)]; exact (hS.1.b hk).1
      · refine sX_days hv hS hk (hg.x e) a2 (fun υ e2 => ?_)
        refine rgo _ (n1 _) (n2 _) (fun _ y => by rw [c] at y; exact Bool.noConfusion y) (fun _ _ => ⟨fun y => absurd z y, fun _ k' hk' ek' τ' eu => ?_⟩)
        have : k = k' := nI_inj (by omega) (by omega) ek'
        subst this
        exact fin _ _ _ (e.tr e2.1) eu
