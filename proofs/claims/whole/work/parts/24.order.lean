/-! PURE: belts in an order -/
theorem ct_lt {n k : Nat} {p q : Nat → Bool} (h : ∀ i, i < n → p i = true → q i = true) (hk : k < n) (pk : p k = false) (qk : q k = true) : ct n p < ct n q := by
  induction n with
  | zero => exact absurd hk (Nat.not_lt_zero _)
  | succ n ih =>
    rw [ct_s, ct_s]
    rcases Nat.lt_or_ge k n with g | g
    · have a := ih (fun i hi => h i (by omega)) g
      have b := h n (Nat.lt_succ_self n)
      cases hp : p n
      · simp; split <;> omega
      · rw [b hp]; simp; exact a
    · have : k = n := by omega
      subst this
      have a := ct_mono (n := k) (p := p) (q := q) (fun i hi => h i (by omega))
      rw [pk, qk]
      simp
      omega
theorem ct_none (n : Nat) : ct n (fun _ => false) = 0 := by
  induction n with
  | zero => rfl
  | succ n ih => rw [ct_s, ih]; rfl
theorem ct_all (n : Nat) : ct n (fun _ => true) = n := by
  induction n with
  | zero => rfl
  | succ n ih => rw [ct_s, ih]; rfl
theorem ct_full {n : Nat} {p : Nat → Bool} (h : n ≤ ct n p) : ∀ i, i < n → p i = true := by
  intro i hi
  cases hp : p i
  · have a := ct_lt (n := n) (p := p) (q := fun _ => true) (fun _ _ _ => rfl) hi hp rfl
    have b := ct_le n (fun _ => true)
    omega
  · rfl
theorem ct_not {n k : Nat} {p : Nat → Bool} (hk : k < n) (pk : p k = false) : ct n p < n := by
  have a := ct_lt (n := n) (p := p) (q := fun _ => true) (fun _ _ _ => rfl) hk pk rfl
  have b := ct_le n (fun _ => true)
  omega
/-- what the order keeps: found belts, how many, in which order -/
def oIv (W : Vw) (n : Nat) (f : Int32) (c : Nat) (o : Nat → Nat) (τ : St) : Prop := c = ct n (bt f) ∧ (∀ i, i < c → gI τ 12 i = nI (o i) ∧ o i < n) ∧ (∀ k, k < n → bt f k = true → ∃ i, i < c ∧ o i = k) ∧ (∀ i j, i < c → j < n → W 12 j = W 11 (o i) → ∃ i', i' < i ∧ o i' = j)
theorem rdy {W : Vw} {n : Nat} {r : Nat → Nat} (hr : ∀ k, k < n → r (W 11 k) < r (W 12 k)) {p : Nat → Bool} : ∀ m k, r (W 12 k) < m → k < n → p k = false → ∃ k', k' < n ∧ p k' = false ∧ (du W n (W 11 k') = none ∨ ∃ a, du W n (W 11 k') = some a ∧ p a = true) := by
  intro m
  induction m with
  | zero => intro k h; exact absurd h (Nat.not_lt_zero _)
  | succ m ih =>
    intro k hm hk pk
    cases hd : du W n (W 11 k) with
    | none => exact ⟨k, hk, pk, Or.inl hd⟩
    | some a =>
      have ha := du_some hd
      cases pa : p a
      · have := hr k hk
        exact ih a (by rw [ha.2]; omega) ha.1 pa
      · exact ⟨k, hk, pk, Or.inr ⟨a, hd, pa⟩⟩
theorem sX_order {W : Vw} {ids : List Nat} {σ : St} {n : Nat} (hn : n ≤ 7) (hb : gI σ 1 3 = nI n) (hB : ∀ k, k < n → gR σ 11 k = some (bO W k) ∧ okB ids (bO W k) ∧ gI σ (bO W k) 1 = nI (W 11 k) ∧ W 11 k < 8 ∧ 72 ≤ bO W k) (hD : ∀ k, k < n → gI σ 5 (W 11 k) = oI (du W n (W 11 k))) (hj : ∀ j k, j < n → k < n → W 12 j = W 12 k → j = k) (r : Nat → Nat) (hr : ∀ k, k < n → r (W 11 k) < r (W 12 k)) {post : St → Prop} (h : ∀ (τ : St) (o : Nat → Nat), (∀ c k, ¬ c = 12 → gI τ c k = gI σ c k) → (∀ c k, gR τ c k = gR σ c k) → (∀ i, i < n → gI τ 12 i = nI (o i) ∧ o i < n) → (∀ k, k < n → ∃ i, i < n ∧ o i = k) → (∀ i j, i < n → j < n → W 12 j = W 11 (o i) → ∃ i', i' < i ∧ o i' = j) → post τ) : wX6_orderBelts ids σ post := by
  have z0 : ct n (bt 0) = 0 := by
    rw [ct_cg (q := fun _ => false) (fun i _ => bt_0 i), ct_none]
  refine lpc3 (wX6_orderBelts_6 ids post) n (by omega) (fun rd f c τ => (∀ c k, ¬ c = 12 → gI τ c k = gI σ c k) ∧ (∀ c k, gR τ c k = gR σ c k) ∧ ∃ cn o, c = nI cn ∧ rd ≤ cn ∧ oIv W n f cn o τ) ?_ ?_ 0 0 σ ⟨fun _ _ _ => rfl, fun _ _ => rfl, 0, fun _ => 0, rfl, Nat.le_refl 0, z0.symm, fun i hi => absurd hi (Nat.not_lt_zero _), fun k _ e => by rw [bt_0] at e; exact absurd e (by decide), fun i j hi => absurd hi (Nat.not_lt_zero _)⟩
  · rintro m f c τ ⟨e1, e2, cn, o, rfl, hc, q1, q2, q3, q4⟩
    rw [wX6_orderBelts_6_s]
    refine dt (by rw [e1 _ _ (by omega), hb]; exact nI_le (Nat.le_refl _) (by omega)) ?_
    have hl := ct_le n (bt f)
    have all := ct_full (n := n) (p := bt f) (by omega)
    have ecn : cn = n := by omega
    subst ecn
    exact h τ o e1 e2 q2 (fun k hk => q3 k hk (all k hk)) q4
  · rintro m rd f c τ hrd ⟨e1, e2, cn, o, rfl, hc, hq⟩ kk
    rw [wX6_orderBelts_6_s]
    refine df (by rw [e1 _ _ (by omega), hb]; exact nI_ge hrd (by omega)) ?_
    have f0l := hq.1
    refine lpc3 (fun N a b c τ => wX6_orderBelts_17 ids (wX6_orderBelts_6 ids post m) post (nI rd) N a b c τ) n (by omega) (fun i g c υ => (∀ c k, ¬ c = 12 → gI υ c k = gI σ c k) ∧ (∀ c k, gR υ c k = gR σ c k) ∧ ∃ gn o, c = nI gn ∧ oIv W n g gn o υ ∧ (∀ k, k < n → bt f k = true → bt g k = true) ∧ (∀ k, k < i → (du W n (W 11 k) = none ∨ ∃ a, du W n (W 11 k) = some a ∧ bt f a = true) → bt g k = true)) ?_ ?_ f (nI cn) τ ⟨e1, e2, cn, o, rfl, hq, fun _ _ e => e, fun k hk => absurd hk (Nat.not_lt_zero _)⟩
    · rintro m1 g c υ ⟨u1, u2, gn, o', rfl, hg, hfg, hall⟩
      show wX6_orderBelts_17 ids (wX6_orderBelts_6 ids post m) post (nI rd) (m1 + 1) g (nI gn) (nI n) υ
      rw [wX6_orderBelts_17_s]
      refine dt (by rw [u1 _ _ (by omega), hb]; exact nI_le (Nat.le_refl _) (by omega)) ?_
      rintro v rfl
      rw [nI_1]
      refine kk _ _ _ ⟨u1, u2, gn, o', rfl, ?_, hg⟩
      have hgl := hg.1
      by_cases fl : ∀ i, i < n → bt f i = true
      · have : ct n (bt g) = n := by
          have e : ct n (bt g) = ct n (fun _ => true) := ct_cg (fun i hi => hfg i hi (fl i hi))
          rw [e, ct_all]
        omega
      · have ⟨k, hk⟩ : ∃ k, ¬ (k < n → bt f k = true) := Classical.not_forall.mp fl
        have ⟨hk1, hk2⟩ := Classical.not_imp.mp hk
        obtain ⟨k', k1, k2, k3⟩ := rdy hr (p := bt f) (r (W 12 k) + 1) k (Nat.lt_succ_self _) hk1 (nf hk2)
        have := ct_lt hfg k1 k2 (hall k' k1 k3)
        omega
    · rintro m1 i g c υ hi ⟨u1, u2, gn, o', rfl, hg, hfg, hall⟩ kk2
      show wX6_orderBelts_17 ids (wX6_orderBelts_6 ids post m) post (nI rd) (m1 + 1) g (nI gn) (nI i) υ
      rw [wX6_orderBelts_17_s]
      obtain ⟨b1, b2, b3, b4, b5⟩ := hB i hi
      have hd := hD i hi
      have hgl := hg.1
      have skip : ((du W n (W 11 i) = none ∨ ∃ a, du W n (W 11 i) = some a ∧ bt f a = true) → bt g i = true) → wX6_orderBelts_98 ids (wX6_orderBelts_6 ids post m) (fun a b c τ => wX6_orderBelts_17 ids (wX6_orderBelts_6 ids post m) post (nI rd) m1 a b c τ) post g (nI gn) (nI rd) (nI i) υ := by
        rintro hs v rfl
        rw [nI_1]
        refine kk2 _ _ _ ⟨u1, u2, gn, o', rfl, hg, hfg, fun k hk => ?_⟩
        rcases Nat.lt_or_ge k i with z | z
        · exact hall k z
        · have : k = i := by omega
          subst this
          exact hs
      have go : (du W n (W 11 i) = none ∨ ∃ a, du W n (W 11 i) = some a ∧ bt g a = true) → wX6_orderBelts_59 ids (wX6_orderBelts_6 ids post m) (fun a b c τ => wX6_orderBelts_17 ids (wX6_orderBelts_6 ids post m) post (nI rd) m1 a b c τ) post g (nI gn) (nI rd) (nI i) υ := by
        intro hready
        refine df (by decide) ?_
        rw [bt_t0 g (i := i) (by omega)]
        by_cases bg : bt g i = false
        · refine dn bg ?_
          rintro v4 rfl
          have hlt := ct_not hi bg
          refine ⟨vin (by omega) (by omega), ?_⟩
          rw [nI_clamp (by omega)]
          rintro σ6 rfl v7 rfl v rfl
          rw [nI_1, nI_1]
          have bo : ∀ t, t < n → bt (g ||| ((1 : Int32) <<< (nI i &&& 31))) t = (bt g t || decide (t = i)) := fun t ht => by rw [bt_or, bt_one _ (by omega) t (by omega)]
          have onew : ∀ x, x < gn → (fun x => if x = gn then i else o' x) x = o' x := fun x hx => if_neg (by omega)
          have ogn : (fun x => if x = gn then i else o' x) gn = i := if_pos rfl
          obtain ⟨q1, q2, q3, q4⟩ := hg
          refine kk2 _ _ _ ⟨fun c k hc => by rw [gI_o (by omega)]; exact u1 c k hc, u2, gn + 1, fun x => if x = gn then i else o' x, rfl, ⟨?_, ?_, ?_, ?_⟩, ?_, ?_⟩
          · have e : ct n (bt (g ||| ((1 : Int32) <<< (nI i &&& 31)))) = ct n (fun t => bt g t || decide (t = i)) := ct_cg bo
            rw [e, q1]
            symm
            refine ct_dr (j := i) hi (fun j hj => ?_) (by simp) bg
            simp [hj]
          · intro x hx
            by_cases e : x = gn
            · subst e
              rw [gI_s, ogn]
              exact ⟨rfl, hi⟩
            · rw [gI_o (by omega), onew x (by omega)]
              exact q2 x (by omega)
          · intro k hk bk
            rw [bo k hk, Bool.or_eq_true] at bk
            rcases bk with z | z
            · obtain ⟨x, hx, ex⟩ := q3 k hk z
              exact ⟨x, by omega, by rw [onew x hx]; exact ex⟩
            · exact ⟨gn, by omega, by rw [ogn]; exact (of_decide_eq_true z).symm⟩
          · intro x j hx hjn ej
            by_cases e : x = gn
            · subst e
              rw [ogn] at ej
              rcases hready with z | ⟨a, z1, z2⟩
              · exact absurd ej (du_none z j hjn)
              · have ha := du_some z1
                have : j = a := hj j a hjn ha.1 (by rw [ej, ha.2])
                subst this
                obtain ⟨y, hy, ey⟩ := q3 j hjn z2
                exact ⟨y, hy, by rw [onew y hy]; exact ey⟩
            · rw [onew x (by omega)] at ej
              obtain ⟨y, hy, ey⟩ := q4 x j (by omega) hjn ej
              exact ⟨y, hy, by rw [onew y (by omega)]; exact ey⟩
          · intro k hk bk
            rw [bo k hk, hfg k hk bk]
            rfl
          · intro k hk hk2
            rw [bo k (by omega)]
            rcases Nat.lt_or_ge k i with z | z
            · rw [hall k z hk2]
              rfl
            · have : k = i := by omega
              subst this
              simp
        · refine dm bg (skip (fun _ => ?_))
          cases hh : bt g i
          · exact absurd hh bg
          · rfl
      refine df (by rw [u1 _ _ (by omega), hb]; exact nI_ge hi (by omega)) ⟨vin (by omega) (by omega), bO W i, by rw [nI_clamp (by omega), u2]; exact b1, b2, ?_⟩
      rw [u1 _ _ (by omega), b3]
      refine ⟨vin (by omega) (by omega), ?_⟩
      rw [nI_clamp (by omega), u1 5 _ (by omega), hd]
      rintro v14 rfl
      cases hdu : du W n (W 11 i) with
      | none => exact dt rfl (go (Or.inl hdu))
      | some a =>
        have ha := du_some hdu
        refine df (ne_m1 (by omega)) ?_
        show (¬ ((g >>> (nI a &&& 31)) &&& (1 : Int32)) = (1 : Int32) → _) ∧ (((g >>> (nI a &&& 31)) &&& (1 : Int32)) = (1 : Int32) → _)
        rw [bt_t g (i := a) (by omega)]
        by_cases ba : bt g a = true
        · exact dn ba (go (Or.inr ⟨a, hdu, ba⟩))
        · refine dm ba (dt rfl (skip (fun z => ?_)))
          rcases z with z | ⟨a', z1, z2⟩
          · rw [hdu] at z; exact absurd z (by simp)
          · rw [hdu] at z1
            obtain rfl := Option.some.inj z1
            exact absurd (hfg a ha.1 z2) ba
