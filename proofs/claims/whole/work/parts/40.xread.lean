/-! PURE: the class reads tokens -/
def TBx (b : By) (n : Nat) (τ : St) : Prop := n ≤ 160 ∧ gI τ 2 1 = nI n ∧ ∀ i, i < n → b i < 256 ∧ gI τ 13 i = nI (b i)
def XF (ρ τ : St) : Prop := (∀ c k, ¬ (c = 2 ∧ 2 ≤ k ∧ k ≤ 5) → gI τ c k = gI ρ c k) ∧ (∀ c k, gJ τ c k = gJ ρ c k) ∧ ∀ c k, gR τ c k = gR ρ c k
theorem XF.rf (ρ : St) : XF ρ ρ := ⟨fun _ _ _ => rfl, fun _ _ => rfl, fun _ _ => rfl⟩
theorem XF.tr {ρ τ υ : St} (h : XF ρ τ) (g : XF τ υ) : XF ρ υ := ⟨fun c k n => (g.1 c k n).trans (h.1 c k n), fun c k => (g.2.1 c k).trans (h.2.1 c k), fun c k => (g.2.2 c k).trans (h.2.2 c k)⟩
theorem XF.uI {ρ τ : St} (h : XF ρ τ) {k : Nat} {v : Int32} (hk : 2 ≤ k ∧ k ≤ 5) : XF ρ (uI τ 2 k v) := ⟨fun c j n => by rw [gI_o (by omega)]; exact h.1 c j n, h.2.1, h.2.2⟩
theorem TBx.f {b : By} {n : Nat} {ρ τ : St} (h : TBx b n ρ) (f : XF ρ τ) : TBx b n τ := by
  obtain ⟨h1, h2, h3⟩ := h
  refine ⟨h1, ?_, fun i hi => ⟨(h3 i hi).1, ?_⟩⟩
  · rw [f.1 _ _ (by omega)]; exact h2
  · rw [f.1 _ _ (by omega)]; exact (h3 i hi).2
theorem sX_isDigit {ids : List Nat} {σ : St} {x : Nat} (hx : x < 256) {post : Int32 → St → Prop} (h : post (bI (isD x)) σ) : wX7_isDigit ids (nI x) σ post := by
  unfold wX7_isDigit
  have e1 : (nI x < (48 : Int32)) ↔ x < 48 := nI_ltI (b := 48) (by omega) (by omega)
  have e2 : ((57 : Int32) < nI x) ↔ 57 < x := nI_ltI (a := 57) (by omega) (by omega)
  rw [e1, e2]
  by_cases c1 : x < 48
  · have e : isD x = false := by unfold isD; simp; omega
    rw [e] at h
    exact dt c1 ⟨isB_0, h⟩
  · refine df c1 ?_
    by_cases c2 : 57 < x
    · have e : isD x = false := by unfold isD; simp; omega
      rw [e] at h
      exact dt c2 ⟨isB_0, h⟩
    · have e : isD x = true := by unfold isD; simp; omega
      rw [e] at h
      exact df c2 ⟨isB_1, h⟩
theorem sX_isLetter {ids : List Nat} {σ : St} {x : Nat} (hx : x < 256) {post : Int32 → St → Prop} (h : post (bI (isL x)) σ) : wX7_isLetter ids (nI x) σ post := by
  unfold wX7_isLetter
  have e1 : (nI x < (97 : Int32)) ↔ x < 97 := nI_ltI (b := 97) (by omega) (by omega)
  have e2 : ((122 : Int32) < nI x) ↔ 122 < x := nI_ltI (a := 122) (by omega) (by omega)
  rw [e1, e2]
  by_cases c1 : x < 97
  · have e : isL x = false := by unfold isL; simp; omega
    rw [e] at h
    exact dt c1 ⟨isB_0, h⟩
  · refine df c1 ?_
    by_cases c2 : 122 < x
    · have e : isL x = false := by unfold isL; simp; omega
      rw [e] at h
      exact dt c2 ⟨isB_0, h⟩
    · have e : isL x = true := by unfold isL; simp; omega
      rw [e] at h
      exact df c2 ⟨isB_1, h⟩
/-- where the reading is, in the tape -/
theorem tbx_le {b : By} {n i : Nat} {τ : St} (hT : TBx b n τ) (hi : i ≤ n) (hat : gI τ 2 2 = nI i) : (gI τ 2 1 ≤ gI τ 2 2) ↔ n ≤ i := by
  have hn := hT.1
  rw [hT.2.1, hat]
  exact nI_leI (by omega) (by omega)
theorem tbx_b {b : By} {n i : Nat} {τ : St} (hT : TBx b n τ) (hi : i < n) (hat : gI τ 2 2 = nI i) : vp_in (gI τ 2 2) 160 ∧ gI τ 13 (gI τ 2 2).toNatClampNeg = nI (b i) := by
  have hn := hT.1
  rw [hat, nI_clamp (by omega)]
  exact ⟨vin (by omega) (by omega), (hT.2.2 i hi).2⟩
theorem sX_nextNumber {b : By} {n p : Nat} {ids : List Nat} {ρ : St} (hT : TBx b n ρ) (hp : p ≤ n) (h2 : gI ρ 2 2 = nI p) (h4 : gI ρ 2 4 = nI p) {post : St → Prop} (h : ∀ τ, XF ρ τ → gI τ 2 4 = nI p → gI τ 2 2 = nI (E (fun i => isD (b i)) n p) → gI τ 2 3 = nI (if E (fun i => isD (b i)) n p - p ≤ 4 then 2 else 1) → (E (fun i => isD (b i)) n p - p ≤ 4 → gI τ 2 5 = nI (dvl b p (E (fun i => isD (b i)) n p - p))) → post τ) : wX7_nextNumber ids ρ post := by
  have hn := hT.1
  have hEge := E_ge (fun i => isD (b i)) n p
  unfold wX7_nextNumber
  rintro _ rfl
  refine lpq1 (A1 := Unit) (fun N _ τ => wX7_nextNumber_5 ids post N τ) (fun m _ τ => ∃ k, p + k ≤ n ∧ m = n - (p + k) ∧ E (fun i => isD (b i)) n (p + k) = E (fun i => isD (b i)) n p ∧ XF ρ τ ∧ gI τ 2 4 = nI p ∧ gI τ 2 2 = nI (p + k) ∧ (k ≤ 4 → gI τ 2 5 = nI (dvl b p k))) ?_ (n - p) () _ ⟨0, by omega, rfl, rfl, (XF.rf ρ).uI (by omega), by rw [gI_o (by omega)]; exact h4, by rw [gI_o (by omega)]; exact h2, fun _ => gI_s⟩
  rintro N m ⟨⟩ τ ⟨k, hk, rfl, hE, hF, q4, q2, q5⟩ kk
  show wX7_nextNumber_5 ids post (N + 1) τ
  rw [wX7_nextNumber_5_s]
  have hTt := hT.f hF
  rw [tbx_le hTt hk q2]
  have fin : ¬ (p + k < n ∧ isD (b (p + k)) = true) → wX7_nextNumber_68 ids post τ := by
    intro z
    have e : E (fun i => isD (b i)) n p = p + k := by
      rw [← hE]
      exact E_n z
    rw [e, show p + k - p = k by omega] at h
    unfold wX7_nextNumber_68
    have e4 : ((4 : Int32) < gI τ 2 2 - gI τ 2 4) ↔ 4 < k := by
      rw [q2, q4, nI_sub (by omega), show p + k - p = k by omega]
      exact nI_ltI (a := 4) (by omega) (by omega)
    rw [e4]
    refine ⟨fun g => ?_, fun g => ?_⟩
    · rintro _ rfl
      refine h _ (hF.uI (by omega)) (by rw [gI_o (by omega)]; exact q4) (by rw [gI_o (by omega)]; exact q2) (by rw [gI_s, if_neg (by omega)]; rfl) (fun z => by omega)
    · rintro _ rfl
      refine h _ (hF.uI (by omega)) (by rw [gI_o (by omega)]; exact q4) (by rw [gI_o (by omega)]; exact q2) (by rw [gI_s, if_pos (by omega)]; rfl) (fun z => by rw [gI_o (by omega)]; exact q5 z)
  refine ⟨fun g => fin (fun z => by omega), fun g => ?_⟩
  have hlt : p + k < n := by omega
  obtain ⟨w1, w2⟩ := tbx_b hTt hlt q2
  have hb := (hT.2.2 _ hlt).1
  refine ⟨w1, ?_⟩
  rw [w2]
  refine sX_isDigit hb (bI_d (fun c => fin (fun z => by rw [z.2] at c; exact Bool.noConfusion c)) (fun c => ⟨w1, ?_⟩))
  rintro _ rfl _ rfl
  rw [gI_o (by omega), q2, nI_1]
  have hE2 : E (fun i => isD (b i)) n (p + (k + 1)) = E (fun i => isD (b i)) n p := by
    rw [← hE, E_y (q := fun i => isD (b i)) hlt c]
    rfl
  refine kk _ () _ ⟨k + 1, by omega, rfl, hE2, (hF.uI (by omega)).uI (by omega), ?_, gI_s, fun g4 => ?_⟩ (by omega)
  · rw [gI_o (by omega), gI_o (by omega)]; exact q4
  · rw [gI_o (by omega), gI_s]
    have w2' : gI τ 13 (nI (p + k)).toNatClampNeg = nI (b (p + k)) := by rw [← q2]; exact w2
    have hD : 48 ≤ b (p + k) := by
      unfold isD at c
      simp at c
      exact c.1
    have e10 : (10 : Int32) = nI 10 := rfl
    have e48 : (48 : Int32) = nI 48 := rfl
    rw [w2', q5 (by omega), e10, e48, nI_mul, nI_add, nI_sub (by omega), dvl_s]
    congr 1
    omega
-- the words
def Vw2 (k : Nat) : Nat := [223456, 11055682, 465874, 247162, 381245, 4562587, 456399, 262822, 453836, 423, 1111, 10631].getD k 0
/-- their letters -/
def Wd (k i : Nat) : Nat := ((xByt.getD 2 []).getD (6 * k + i) 0).toNatClampNeg
def Wl (k : Nat) : Nat := [4, 5, 4, 4, 4, 5, 4, 4, 4, 2, 3, 3].getD k 0
theorem Wd_ok : ∀ k, k < 12 → Wl k < 6 ∧ (∀ i, i < 6 → xCh 2 (6 * k + i) = nI (Wd k i) ∧ Wd k i < 256 ∧ (i < Wl k → 97 ≤ Wd k i ∧ Wd k i ≤ 122) ∧ (¬ i < Wl k → Wd k i = 32)) ∧ wvl (fun i => Wd k i) 0 (Wl k) = Vw2 k ∧ 0 < Vw2 k ∧ (∀ j, j < 12 → Vw2 j = Vw2 k → j = k) ∧ wtk (Vw2 k) = (if k < 6 then 3 else k - 2) ∧ (k < 6 → wnm (Vw2 k) = k) := by decide +kernel
theorem wvl_inj {b b' : By} {p p' : Nat} : ∀ l l', (∀ i, i < l → 97 ≤ b (p + i) ∧ b (p + i) ≤ 122) → (∀ i, i < l' → 97 ≤ b' (p' + i) ∧ b' (p' + i) ≤ 122) → wvl b p l = wvl b' p' l' → l = l' ∧ ∀ i, i < l → b (p + i) = b' (p' + i) := by
  intro l
  induction l with
  | zero =>
    intro l' _ h2 e
    cases l' with
    | zero => exact ⟨rfl, fun i hi => absurd hi (Nat.not_lt_zero _)⟩
    | succ l' =>
      have := h2 l' (by omega)
      rw [wvl_s] at e
      have e0 : wvl b p 0 = 0 := rfl
      omega
  | succ l ih =>
    intro l' h1 h2 e
    cases l' with
    | zero =>
      have := h1 l (by omega)
      rw [wvl_s] at e
      have e0 : wvl b' p' 0 = 0 := rfl
      omega
    | succ l' =>
      have a1 := h1 l (by omega)
      have a2 := h2 l' (by omega)
      rw [wvl_s, wvl_s] at e
      obtain ⟨e1, e2⟩ := ih l' (fun i hi => h1 i (by omega)) (fun i hi => h2 i (by omega)) (by omega)
      subst e1
      refine ⟨rfl, fun i hi => ?_⟩
      rcases Nat.lt_or_ge i l with g | g
      · exact e2 i g
      · have : i = l := by omega
        subst this
        omega
theorem wvl_cg {b b' : By} {p p' : Nat} : ∀ l, (∀ i, i < l → b (p + i) = b' (p' + i)) → wvl b p l = wvl b' p' l := by
  intro l
  induction l with
  | zero => intro _; rfl
  | succ l ih =>
    intro h
    rw [wvl_s, wvl_s, ih (fun i hi => h i (by omega)), h l (by omega)]
theorem wv_w {b : By} {n c k : Nat} (hk : k < 12) : wv b n c = Vw2 k ↔ eL b n c - pc b n c < 6 ∧ ∀ i, i < 6 → Wd k i = if i < eL b n c - pc b n c then b (pc b n c + i) else 32 := by
  obtain ⟨w1, w2, w3, w4, -⟩ := Wd_ok k hk
  have hlet : ∀ i, i < eL b n c - pc b n c → 97 ≤ b (pc b n c + i) ∧ b (pc b n c + i) ≤ 122 := by
    intro i hi
    have := (E_in (fun i => isL (b i)) n (pc b n c) (pc b n c + i) (by omega) (by unfold eL at hi; omega)).2
    unfold isL at this
    simp at this
    exact this
  have hwd : ∀ i, i < Wl k → 97 ≤ Wd k (0 + i) ∧ Wd k (0 + i) ≤ 122 := by
    intro i hi
    rw [Nat.zero_add]
    exact (w2 i (by omega)).2.2.1 hi
  unfold wv
  constructor
  · intro e
    by_cases g : eL b n c - pc b n c ≤ 8
    · rw [if_pos g, ← w3] at e
      obtain ⟨e1, e2⟩ := wvl_inj _ _ hlet hwd e
      refine ⟨by omega, fun i hi => ?_⟩
      by_cases g2 : i < eL b n c - pc b n c
      · rw [if_pos g2, e2 i g2, Nat.zero_add]
      · rw [if_neg g2]
        exact (w2 i hi).2.2.2 (by omega)
    · rw [if_neg g] at e
      omega
  · rintro ⟨e1, e2⟩
    have el : eL b n c - pc b n c = Wl k := by
      rcases Nat.lt_trichotomy (eL b n c - pc b n c) (Wl k) with g | g | g
      · have a := e2 _ e1
        rw [if_neg (Nat.lt_irrefl _)] at a
        have := (w2 _ e1).2.2.1 g
        omega
      · exact g
      · have a := e2 _ w1
        rw [if_pos g] at a
        have := hlet _ g
        have := (w2 _ w1).2.2.2 (Nat.lt_irrefl _)
        omega
    rw [if_pos (by omega), el, ← w3]
    refine wvl_cg _ (fun i hi => ?_)
    have a := e2 i (by omega)
    rw [if_pos (by omega)] at a
    rw [← a, Nat.zero_add]
theorem sX_isWord {b : By} {n c k : Nat} {ids : List Nat} {τ : St} (hT : TBx b n τ) (hk : k < 12) (hc : c ≤ n) (h2 : gI τ 2 2 = nI (eL b n c)) (h4 : gI τ 2 4 = nI (pc b n c)) {post : Int32 → St → Prop} (h : post (bI (decide (wv b n c = Vw2 k))) τ) : wX7_isWord ids (nI k) τ post := by
  have hn := hT.1
  have hp := pc_le b n c hc
  have he : pc b n c ≤ eL b n c := E_ge _ n _
  have he2 : eL b n c ≤ n := E_le _ n _ hp
  obtain ⟨w1, w2, -⟩ := Wd_ok k hk
  have W := wv_w (b := b) (n := n) (c := c) hk
  unfold wX7_isWord
  rw [h2, h4, nI_sub he]
  rintro _ rfl
  have e6 : (nI (eL b n c - pc b n c) < (6 : Int32)) ↔ eL b n c - pc b n c < 6 := nI_ltI (b := 6) (by omega) (by omega)
  rw [e6]
  have no : ¬ wv b n c = Vw2 k → post 0 τ := by
    intro z
    rw [decide_eq_false z] at h
    exact h
  refine ⟨fun g => ?_, fun g => no (fun z => g (W.mp z).1)⟩
  refine lpq1 (A1 := Int32) (fun N a τ => wX7_isWord_20 ids post (nI k) (nI (eL b n c - pc b n c)) N a τ) (fun m a τ' => ∃ i, a = nI i ∧ i ≤ 6 ∧ m = 6 - i ∧ τ' = τ ∧ ∀ j, j < i → Wd k j = if j < eL b n c - pc b n c then b (pc b n c + j) else 32) ?_ 6 0 τ ⟨0, rfl, by omega, rfl, rfl, fun j hj => absurd hj (Nat.not_lt_zero _)⟩
  rintro N m a τ' ⟨i, rfl, hi, rfl, rfl, hj⟩ kk
  show wX7_isWord_20 ids post (nI k) (nI (eL b n c - pc b n c)) (N + 1) (nI i) τ'
  rw [wX7_isWord_20_s]
  have e6' : ((6 : Int32) ≤ nI i) ↔ 6 ≤ i := nI_leI (a := 6) (by omega) (by omega)
  rw [e6', nI_leI (a := eL b n c - pc b n c) (by omega) (by omega)]
  refine ⟨fun z => ?_, fun z => ?_⟩
  · rw [decide_eq_true (W.mpr ⟨g, fun j hj6 => hj j (by omega)⟩)] at h
    exact h
  have go : ∀ s0 : Nat, s0 < 256 → s0 = (if i < eL b n c - pc b n c then b (pc b n c + i) else 32) → wX7_isWord_47 ids (wX7_isWord_20 ids post (nI k) (nI (eL b n c - pc b n c)) N) post (nI k) (nI (eL b n c - pc b n c)) (nI i) (nI s0) τ' := by
    intro s0 hs0 es
    have ek : nI k * (6 : Int32) + nI i = nI (6 * k + i) := by
      have e : (6 : Int32) = nI 6 := rfl
      rw [e, nI_mul, nI_add, Nat.mul_comm]
    unfold wX7_isWord_47
    obtain ⟨x1, x2, -⟩ := w2 i (by omega)
    rw [ek, nI_clamp (by omega), x1, nI_eq (by omega) (by omega)]
    refine ⟨vin (by omega) (by omega), fun y => ?_, fun y => no (fun q => y ?_)⟩
    · rintro _ rfl
      rw [nI_1]
      refine kk _ _ _ ⟨i + 1, rfl, by omega, rfl, rfl, fun j hj' => ?_⟩ (by omega)
      rcases Nat.lt_or_ge j i with g3 | g3
      · exact hj j g3
      · have : j = i := by omega
        subst this
        rw [y, es]
    · rw [(W.mp q).2 i (by omega), es]
  refine ⟨fun y => go 32 (by decide) (by rw [if_neg (by omega)]), fun y => ?_⟩
  rw [h4, nI_add]
  refine ⟨vin (by omega) (by omega), ?_⟩
  obtain ⟨b1, b2⟩ := hT.2.2 (pc b n c + i) (by omega)
  rw [nI_clamp (by omega), b2]
  exact go _ b1 (by rw [if_pos (by omega)])
theorem sX_nextWord {b : By} {n c : Nat} {ids : List Nat} {ρ : St} (hT : TBx b n ρ) (hc : c ≤ n) (h2 : gI ρ 2 2 = nI (pc b n c)) (h4 : gI ρ 2 4 = nI (pc b n c)) {post : St → Prop} (h : ∀ τ, XF ρ τ → gI τ 2 4 = nI (pc b n c) → gI τ 2 2 = nI (eL b n c) → gI τ 2 3 = nI (wtk (wv b n c)) → (wtk (wv b n c) = 3 → gI τ 2 5 = nI (wnm (wv b n c))) → post τ) : wX7_nextWord ids ρ post := by
  have hn := hT.1
  have hp := pc_le b n c hc
  have he : pc b n c ≤ eL b n c := E_ge _ n _
  have he2 : eL b n c ≤ n := E_le _ n _ hp
  have k39 : ∀ τ, XF ρ τ → gI τ 2 4 = nI (pc b n c) → gI τ 2 2 = nI (eL b n c) → wX7_nextWord_39 ids post τ := by
    rintro τ hF q4 q2 _ rfl
    refine lpq1 (A1 := Int32) (fun N a τ => wX7_nextWord_46 ids post N a τ) (fun m a τ' => ∃ w, a = nI w ∧ w ≤ 12 ∧ m = 12 - w ∧ XF ρ τ' ∧ gI τ' 2 4 = nI (pc b n c) ∧ gI τ' 2 2 = nI (eL b n c) ∧ (∀ k, k < 12 → wv b n c = Vw2 k → k < w → gI τ' 2 3 = nI (if k < 6 then 3 else k - 2) ∧ gI τ' 2 5 = nI k) ∧ ((∀ k, k < w → ¬ wv b n c = Vw2 k) → gI τ' 2 3 = 1)) ?_ 12 0 _ ⟨0, rfl, by omega, rfl, hF.uI (by omega), by rw [gI_o (by omega)]; exact q4, by rw [gI_o (by omega)]; exact q2, fun k _ _ hk => absurd hk (Nat.not_lt_zero _), fun _ => gI_s⟩
    rintro N m a τ' ⟨w, rfl, hw, rfl, hF', q4', q2', hy, hno⟩ kk
    show wX7_nextWord_46 ids post (N + 1) (nI w) τ'
    rw [wX7_nextWord_46_s]
    have e12 : ((12 : Int32) ≤ nI w) ↔ 12 ≤ w := nI_leI (a := 12) (by omega) (by omega)
    rw [e12]
    refine ⟨fun z => ?_, fun z => ?_⟩
    · by_cases hex : ∃ k, k < 12 ∧ wv b n c = Vw2 k
      · obtain ⟨k, hk, ek⟩ := hex
        obtain ⟨-, -, -, -, -, w6, w7⟩ := Wd_ok k hk
        obtain ⟨y1, y2⟩ := hy k hk ek (by omega)
        refine h τ' hF' q4' q2' ?_ (fun t => ?_)
        · rw [ek, w6]; exact y1
        · rw [ek, w6] at t
          have k6 : k < 6 := by
            by_cases g : k < 6
            · exact g
            · rw [if_neg g] at t
              omega
          rw [ek, w7 k6]
          exact y2
      · have e1 : wtk (wv b n c) = 1 := by
          have nv : ∀ k, k < 12 → ¬ wv b n c = Vw2 k := fun k hk ek => hex ⟨k, hk, ek⟩
          have n0 := nv 0 (by omega)
          have n1 := nv 1 (by omega)
          have n2 := nv 2 (by omega)
          have n3 := nv 3 (by omega)
          have n4 := nv 4 (by omega)
          have n5 := nv 5 (by omega)
          have n6 : ¬ wv b n c = 456399 := nv 6 (by omega)
          have n7 : ¬ wv b n c = 262822 := nv 7 (by omega)
          have n8 : ¬ wv b n c = 453836 := nv 8 (by omega)
          have n9 : ¬ wv b n c = 423 := nv 9 (by omega)
          have n10 : ¬ wv b n c = 1111 := nv 10 (by omega)
          have n11 : ¬ wv b n c = 10631 := nv 11 (by omega)
          unfold wtk
          rw [if_neg n6, if_neg n7, if_neg n8, if_neg n9, if_neg n10, if_neg n11, if_neg]
          rintro (q | q | q | q | q | q)
          · exact n0 q
          · exact n1 q
          · exact n2 q
          · exact n3 q
          · exact n4 q
          · exact n5 q
        refine h τ' hF' q4' q2' ?_ (fun t => by omega)
        rw [e1]
        exact hno (fun k hk ek => hex ⟨k, by omega, ek⟩)
    · have hw12 : w < 12 := by omega
      refine sX_isWord (hT.f hF') hw12 hc q2' q4' ?_
      refine bI_d (fun cf => ?_) (fun ct => ?_)
      · have cf' := of_decide_eq_false cf
        rintro _ rfl
        rw [nI_1]
        refine kk _ _ _ ⟨w + 1, rfl, by omega, rfl, hF', q4', q2', fun k hk ek hkw => ?_, fun hn' => hno (fun k hk => hn' k (by omega))⟩ (by omega)
        rcases Nat.lt_or_ge k w with g | g
        · exact hy k hk ek g
        · have : k = w := by omega
          subst this
          exact absurd ek cf'
      · have ct' := of_decide_eq_true ct
        have win := (Wd_ok w hw12).2.2.2.2.1
        rintro _ rfl
        have go : ∀ s1 : Int32, s1 = nI (if w < 6 then 3 else w - 2) → wX7_nextWord_82 ids (wX7_nextWord_46 ids post N) post (nI w) s1 (uI τ' 2 5 (nI w)) := by
          rintro s1 rfl _ rfl v1 rfl
          rw [nI_1]
          refine kk _ _ _ ⟨w + 1, rfl, by omega, rfl, (hF'.uI (by omega)).uI (by omega), ?_, ?_, fun k hk ek hkw => ?_, fun hn' => absurd ct' (hn' w (by omega))⟩ (by omega)
          · rw [gI_o (by omega), gI_o (by omega)]; exact q4'
          · rw [gI_o (by omega), gI_o (by omega)]; exact q2'
          · have e : k = w := win k hk (by rw [← ek]; exact ct')
            subst e
            exact ⟨gI_s, by rw [gI_o (by omega), gI_s]⟩
        have e6 : ((6 : Int32) ≤ nI w) ↔ 6 ≤ w := nI_leI (a := 6) (by omega) (by omega)
        rw [e6]
        refine ⟨fun g => go _ ?_, fun g => go _ ?_⟩
        · have e4 : (4 : Int32) = nI 4 := rfl
          have e6 : (6 : Int32) = nI 6 := rfl
          rw [e4, e6, nI_add, nI_sub (by omega), if_neg (by omega)]
          congr 1
          omega
        · rw [if_pos (by omega)]
          rfl
  unfold wX7_nextWord
  refine lpq1 (A1 := Unit) (fun N _ τ => wX7_nextWord_0 ids post N τ) (fun m _ τ => ∃ i, pc b n c ≤ i ∧ i ≤ n ∧ m = n - i ∧ E (fun i => isL (b i)) n i = eL b n c ∧ XF ρ τ ∧ gI τ 2 4 = nI (pc b n c) ∧ gI τ 2 2 = nI i) ?_ (n - pc b n c) () _ ⟨pc b n c, Nat.le_refl _, hp, rfl, rfl, XF.rf ρ, h4, h2⟩
  rintro N m ⟨⟩ τ ⟨i, hi1, hi2, rfl, hE, hF, q4, q2⟩ kk
  show wX7_nextWord_0 ids post (N + 1) τ
  rw [wX7_nextWord_0_s]
  have hTt := hT.f hF
  rw [tbx_le hTt hi2 q2]
  have fin : ¬ (i < n ∧ isL (b i) = true) → wX7_nextWord_39 ids post τ := by
    intro z
    refine k39 τ hF q4 ?_
    rw [q2, ← hE, E_n z]
  refine ⟨fun g => fin (fun z => by omega), fun g => ?_⟩
  have hlt : i < n := by omega
  obtain ⟨w1, w2⟩ := tbx_b hTt hlt q2
  have hb := (hT.2.2 _ hlt).1
  refine ⟨w1, ?_⟩
  rw [w2]
  refine sX_isLetter hb (bI_d (fun c => fin (fun z => by rw [z.2] at c; exact Bool.noConfusion c)) (fun c => ?_))
  rintro _ rfl
  rw [q2, nI_1]
  refine kk _ () _ ⟨i + 1, by omega, by omega, rfl, ?_, hF.uI (by omega), by rw [gI_o (by omega)]; exact q4, gI_s⟩ (by omega)
  rw [← hE]
  exact (E_y (q := fun i => isL (b i)) hlt c).symm
theorem sg_ok : ∀ x, x < 256 → ((¬ ((nI x).toUInt32 % 65536).toInt32 < 0 ∧ ¬ (255 : Int32) < ((nI x).toUInt32 % 65536).toInt32) ∧ (xIx 1 ((nI x).toUInt32 % 65536).toInt32.toInt8.toInt32 8 0 < 0 ↔ isS x = false)) := by decide +kernel
/-- the class's token at c -/
def XS (b : By) (n c : Nat) (τ : St) : Prop := gI τ 2 2 = nI (nx b n c) ∧ gI τ 2 4 = nI (pc b n c) ∧ gI τ 2 3 = nI (tk b n c) ∧ (tk b n c = 2 → gI τ 2 5 = nI (nvl b n c)) ∧ (tk b n c = 3 → gI τ 2 5 = nI (wnm (wv b n c)))
theorem sX_next {b : By} {n : Nat} {ids : List Nat} {ρ : St} (hT : TBx b n ρ) {c : Nat} (hc : c ≤ n) (h2 : gI ρ 2 2 = nI c) {post : St → Prop} (h : ∀ τ, XF ρ τ → XS b n c τ → post τ) : wX7_next ids ρ post := by
  have hn := hT.1
  have hpn := pc_le b n c hc
  have k52 : ∀ τ, XF ρ τ → gI τ 2 2 = nI (pc b n c) → wX7_next_52 ids post τ := by
    rintro τ hF q2 _ rfl
    have hT2 : TBx b n (uI τ 2 4 (gI τ 2 2)) := hT.f (hF.uI (by omega))
    have hF2 : XF ρ (uI τ 2 4 (gI τ 2 2)) := hF.uI (by omega)
    have q4 : gI (uI τ 2 4 (gI τ 2 2)) 2 4 = nI (pc b n c) := by rw [gI_s]; exact q2
    have q2' : gI (uI τ 2 4 (gI τ 2 2)) 2 2 = nI (pc b n c) := by rw [gI_o (by omega)]; exact q2
    generalize uI τ 2 4 (gI τ 2 2) = υ at hT2 hF2 q4 q2'
    have etk : tk b n c = if n ≤ pc b n c then 0 else if isD (b (pc b n c)) = true then (if eD b n c - pc b n c ≤ 4 then 2 else 1) else if isL (b (pc b n c)) = true then wtk (wv b n c) else if isS (b (pc b n c)) = true then b (pc b n c) else 1 := rfl
    have enx : nx b n c = if n ≤ pc b n c then pc b n c else if isD (b (pc b n c)) = true then eD b n c else if isL (b (pc b n c)) = true then eL b n c else pc b n c + 1 := rfl
    have elt : (gI υ 2 2 < gI υ 2 1) ↔ pc b n c < n := by
      rw [hT2.2.1, q2']
      exact nI_ltI (by omega) (by omega)
    rw [elt]
    refine ⟨fun g => ?_, fun g => ?_⟩
    · have gn : ¬ n ≤ pc b n c := by omega
      have hb := (hT.2.2 _ g).1
      obtain ⟨w1, w2⟩ := tbx_b hT2 g q2'
      refine ⟨w1, ?_⟩
      rw [w2]
      refine sX_isDigit hb (bI_d (fun cD => ⟨w1, ?_⟩) (fun cD => ?_))
      · rw [w2]
        have cD' : ¬ isD (b (pc b n c)) = true := by rw [cD]; exact Bool.noConfusion
        refine sX_isLetter hb (bI_d (fun cL => ⟨w1, ?_⟩) (fun cL => ?_))
        · rw [w2]
          have cL' : ¬ isL (b (pc b n c)) = true := by rw [cL]; exact Bool.noConfusion
          obtain ⟨s1, s2⟩ := sg_ok _ hb
          refine ⟨s1, ?_⟩
          rw [s2]
          have go : ∀ s0 : Int32, s0 = nI (if isS (b (pc b n c)) = true then b (pc b n c) else 1) → wX7_next_155 ids post s0 υ := by
            rintro s0 rfl _ rfl _ rfl
            refine h _ ((hF2.uI (by omega)).uI (by omega)) ⟨?_, ?_, ?_, fun t => ?_, fun t => ?_⟩
            · rw [gI_s, gI_o (by omega), q2', nI_1, enx, if_neg gn, if_neg cD', if_neg cL']
            · rw [gI_o (by omega), gI_o (by omega)]; exact q4
            · rw [gI_o (by omega), gI_s, etk, if_neg gn, if_neg cD', if_neg cL']
            · rw [etk, if_neg gn, if_neg cD', if_neg cL'] at t
              split at t
              · rename_i hs
                have := isS_r hs
                omega
              · omega
            · rw [etk, if_neg gn, if_neg cD', if_neg cL'] at t
              split at t
              · rename_i hs
                have := isS_r hs
                omega
              · omega
          refine ⟨fun z => go 1 (by rw [if_neg (by rw [z]; exact Bool.noConfusion)]; rfl), fun z => ?_⟩
          refine go _ ?_
          rw [if_pos]
          cases hs : isS (b (pc b n c)) with
          | false => exact absurd hs z
          | true => rfl
        · refine sX_nextWord hT2 hc q2' q4 (fun τ3 f3 r4 r2 r3 r5 => h τ3 (hF2.tr f3) ⟨?_, r4, ?_, fun t => ?_, fun t => r5 ?_⟩)
          · rw [r2, enx, if_neg gn, if_neg cD', if_pos cL]
          · rw [r3, etk, if_neg gn, if_neg cD', if_pos cL]
          · rw [etk, if_neg gn, if_neg cD', if_pos cL] at t
            exact absurd t (wtk_r _).2.2
          · rw [etk, if_neg gn, if_neg cD', if_pos cL] at t
            exact t
      · refine sX_nextNumber hT2 hpn q2' q4 (fun τ3 f3 r4 r2 r3 r5 => h τ3 (hF2.tr f3) ⟨?_, r4, ?_, fun t => ?_, fun t => ?_⟩)
        · rw [r2, enx, if_neg gn, if_pos cD]
          rfl
        · rw [r3, etk, if_neg gn, if_pos cD]
          rfl
        · rw [etk, if_neg gn, if_pos cD] at t
          refine r5 ?_
          split at t
          · rename_i y; exact y
          · omega
        · rw [etk, if_neg gn, if_pos cD] at t
          split at t <;> omega
    · rintro _ rfl
      refine h _ (hF2.uI (by omega)) ⟨?_, ?_, ?_, fun t => ?_, fun t => ?_⟩
      · rw [gI_o (by omega), q2', enx, if_pos (by omega)]
      · rw [gI_o (by omega)]; exact q4
      · rw [gI_s, etk, if_pos (by omega)]; rfl
      · rw [etk, if_pos (by omega)] at t; omega
      · rw [etk, if_pos (by omega)] at t; omega
  unfold wX7_next
  refine lpq1 (A1 := Unit) (fun N _ τ => wX7_next_0 ids post N τ) (fun m _ τ => ∃ i, c ≤ i ∧ i ≤ n ∧ m = n - i ∧ pc b n i = pc b n c ∧ XF ρ τ ∧ gI τ 2 2 = nI i) ?_ (n - c) () ρ ⟨c, Nat.le_refl c, hc, rfl, rfl, XF.rf ρ, h2⟩
  rintro N m ⟨⟩ τ ⟨i, hi1, hi2, rfl, hE, hF, q2⟩ kk
  show wX7_next_0 ids post (N + 1) τ
  rw [wX7_next_0_s]
  have hTt := hT.f hF
  rw [tbx_le hTt hi2 q2]
  have fin : ¬ (i < n ∧ isW (b i) = true) → wX7_next_52 ids post τ := by
    intro z
    refine k52 τ hF ?_
    rw [q2, ← hE]
    unfold pc
    rw [E_n z]
  refine ⟨fun g => fin (fun z => by omega), fun g => ?_⟩
  have hlt : i < n := by omega
  obtain ⟨w1, w2⟩ := tbx_b hTt hlt q2
  have hb := (hT.2.2 _ hlt).1
  refine ⟨w1, ?_⟩
  rw [w2]
  have e32 : (nI (b i) = (32 : Int32)) ↔ b i = 32 := nI_eq (b := 32) (by omega) (by omega)
  have e10 : (nI (b i) = (10 : Int32)) ↔ b i = 10 := nI_eq (b := 10) (by omega) (by omega)
  rw [e32, e10]
  have go : (b i = 32 ∨ b i = 10) → wX7_next_39 ids (wX7_next_0 ids post N) post τ := by
    rintro hw _ rfl
    rw [q2, nI_1]
    refine kk (n - (i + 1)) () _ ⟨i + 1, by omega, by omega, rfl, ?_, hF.uI (by omega), gI_s⟩ (by omega)
    rw [← hE]
    unfold pc
    exact (E_y (q := fun i => isW (b i)) hlt (by unfold isW; simp; exact hw)).symm
  refine ⟨fun z => go (Or.inl z), fun z1 => ⟨fun z2 => fin (fun q => ?_), fun z => go (Or.inr z)⟩⟩
  have := q.2
  unfold isW at this
  simp at this
  omega
