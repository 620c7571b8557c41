/-! PURE: copy, drums -/
theorem sub_toInt {a n : Nat} (ha : a ≤ 40) (hn : n < 2 ^ 31) : (nI a - nI n).toInt = (a : Int) - n := by
  rw [Int32.toInt_sub, fb_nI (by omega), fb_nI hn]
  exact Int.bmod_eq_of_le (by omega) (by omega)
def hld (sz : Nat) (i n : Int32) : Bool := decide (0 ≤ i.toInt ∧ 0 ≤ n.toInt ∧ i.toInt + n.toInt ≤ sz)
theorem z32 : (0 : Int32).toInt = 0 := by decide
theorem sX_holds {ids : List Nat} {σ : St} {a0 sz : Nat} (hsz : gI σ a0 1 = nI sz) (h40 : sz ≤ 40) (a1 a2 : Int32) {post : Int32 → St → Prop} (h : post (bI (hld sz a1 a2)) σ) : wX8_holds ids a0 a1 a2 σ post := by
  have no : hld sz a1 a2 = false → wX8_holds_30 ids post σ := by
    intro e
    rw [e] at h
    exact ⟨isB_0, h⟩
  unfold wX8_holds
  rw [hsz]
  refine ⟨fun c => no ?_, fun c1 => ⟨fun c => no ?_, fun c2 => ?_⟩⟩
  · rw [fb_lt, z32] at c
    unfold hld
    exact decide_eq_false (by omega)
  · rw [fb_lt, z32] at c
    unfold hld
    exact decide_eq_false (by omega)
  · obtain ⟨n, hn, rfl⟩ := pos_n c2
    obtain ⟨i, hi, rfl⟩ := pos_n c1
    have ei := fb_nI hi
    have en := fb_nI hn
    have e := sub_toInt h40 hn
    refine ⟨fun c => no ?_, fun c3 => ⟨fun c => no ?_, fun c4 => ?_⟩⟩
    · rw [nI_ltI (by omega) hn] at c
      unfold hld
      exact decide_eq_false (by omega)
    · rw [fb_lt, e, ei] at c
      unfold hld
      exact decide_eq_false (by omega)
    · rw [fb_lt, e, ei] at c4
      have t : hld sz (nI i) (nI n) = true := by
        unfold hld
        exact decide_eq_true (by omega)
      rw [t] at h
      exact ⟨isB_1, h⟩
theorem hld_t {sz : Nat} {i n : Int32} (h40 : sz ≤ 40) (h : hld sz i n = true) : ∃ i' n' : Nat, i = nI i' ∧ n = nI n' ∧ i' + n' ≤ sz := by
  have h' := of_decide_eq_true h
  obtain ⟨x, hx, ex⟩ := fb_of (x := i) (N := 40) h'.1 (by omega)
  obtain ⟨y, hy, ey⟩ := fb_of (x := n) (N := 40) h'.2.1 (by omega)
  refine ⟨x, y, ex, ey, ?_⟩
  have e1 := fb_nI (n := x) (by omega)
  have e2 := fb_nI (n := y) (by omega)
  rw [ex, ey, e1, e2] at h'
  omega
theorem pc_copy {ids : List Nat} {σ ρ : St} (a1 : Int32) (a2 : Int32) (a3 : Int32) (a4 : Int32) (a5 : Int32) (h : Rel ids σ ρ) : wX11_copy ids a1 a2 a3 a4 a5 σ (fun r σ1 => wX12_copy a1 a2 a3 a4 a5 ρ (fun r2 ρ1 => r = r2 ∧ Rel ids σ1 ρ1)) := by
  obtain ⟨-, W, h⟩ := h
  have hrel := h.rel
  refine sX_isSheet a1 (bI_d (fun b => ?_) (fun b => ?_))
  · refine sR_isSheet a1 ?_
    rw [b]
    exact dt rfl ⟨rfl, hrel⟩
  obtain ⟨s, hs, rfl⟩ := wi_k (N := 3) b
  refine sX_isSheet a3 (bI_e (fun b2 => ?_) (fun b2 => ?_))
  · refine sR_isSheet _ ?_
    rw [b]
    refine df (by decide) (sR_isSheet a3 ?_)
    rw [b2]
    exact dn rfl ⟨rfl, hrel⟩
  obtain ⟨o, ho, rfl⟩ := wi_k (N := 3) b2
  refine ⟨vin (by omega) (by omega), vin (by omega) (by omega), ?_⟩
  rw [nI_clamp (by omega), nI_clamp (by omega)]
  have rgo : ∀ P : Int32 → St → Prop, (gI ρ 31 s = 0 → P (-11) ρ) → (¬ gI ρ 31 s = 0 → gI ρ 31 o = 0 → P (-11) ρ) → (¬ gI ρ 31 s = 0 → ¬ gI ρ 31 o = 0 → ¬ gI ρ 32 s = gI ρ 32 o → P (-13) ρ) → (∀ n m, ¬ gI ρ 31 s = 0 → ¬ gI ρ 31 o = 0 → gI ρ 32 s = gI ρ 32 o → n ≤ 40 → m ≤ 40 → gI ρ 33 s = nI n → gI ρ 33 o = nI m → (hld n a2 a5 = false ∨ hld m a4 a5 = false) → P (-12) ρ) → (∀ n m i j k, ¬ gI ρ 31 s = 0 → ¬ gI ρ 31 o = 0 → gI ρ 32 s = gI ρ 32 o → n ≤ 40 → m ≤ 40 → gI ρ 33 s = nI n → gI ρ 33 o = nI m → a2 = nI i → a4 = nI j → a5 = nI k → i + k ≤ n → j + k ≤ m → ∀ τ, (∀ c k, ¬ c = 34 → gI τ c k = gI ρ c k) → (∀ x, gI τ 34 x = if 40 * o + j ≤ x ∧ x < 40 * o + j + k then gI ρ 34 (40 * s + i + (x - (40 * o + j))) else gI ρ 34 x) → P (nI k) τ) → (∀ q, q < 4 → ¬ gI ρ 31 q = 0 → ∃ n, n ≤ 40 ∧ gI ρ 33 q = nI n) → wX12_copy (nI s) a2 (nI o) a4 a5 ρ P := by
    intro P p1 p2 p3 p4 p5 hz
    refine sR_isSheet _ ?_
    rw [b]
    refine df (by decide) (sR_isSheet _ ?_)
    rw [b2]
    refine dm (by decide) ⟨vin (by omega) (by omega), ?_⟩
    rw [nI_clamp (by omega), nI_clamp (by omega)]
    refine ⟨p1, fun z1 => ⟨vin (by omega) (by omega), ⟨fun z2 => ⟨fun z3 => ?_, fun z3 => p3 z1 z2 z3⟩, fun z2 => p2 z1 z2⟩⟩⟩
    obtain ⟨n, hn, en⟩ := hz s (by omega) z1
    obtain ⟨m, hm, em⟩ := hz o (by omega) z2
    have bad := p4 n m z1 z2 z3 hn hm en em
    rw [en, em]
    refine ⟨fun c => bad (Or.inl ?_), fun c5 => ⟨fun c => bad (Or.inl ?_), fun c2 => ⟨fun c => bad (Or.inr ?_), fun c4 => ?_⟩⟩⟩
    · rw [fb_lt, z32] at c
      unfold hld
      exact decide_eq_false (by omega)
    · rw [fb_lt, z32] at c
      unfold hld
      exact decide_eq_false (by omega)
    · rw [fb_lt, z32] at c
      unfold hld
      exact decide_eq_false (by omega)
    · obtain ⟨k, hk, rfl⟩ := pos_n c5
      obtain ⟨i, hi, rfl⟩ := pos_n c2
      obtain ⟨j, hj, rfl⟩ := pos_n c4
      have e1 := sub_toInt hn hk
      have e2 := sub_toInt hm hk
      have ei := fb_nI hi
      have ej := fb_nI hj
      have ek := fb_nI hk
      refine ⟨fun c => bad (Or.inl ?_), fun d1 => ⟨fun d2 => ?_, fun c => bad (Or.inr ?_)⟩⟩
      · rw [fb_lt, e1, ei] at c
        unfold hld
        exact decide_eq_false (by omega)
      · rw [fb_lt, e1, ei] at d1
        rw [fb_le, e2, ej] at d2
        have fin : ∀ up : Bool, up = decide (s = o ∧ i < j) → wX12_copy_116 P (nI s) (nI i) (nI o) (nI j) (nI k) (bI up) ρ := fun up hup => sR_copy121 (n := k) (by omega) (by omega) (by omega) (by omega) up hup (p5 n m i j k z1 z2 z3 hn hm en em rfl rfl rfl (by omega) (by omega))
        rw [nI_eq (by omega) (by omega), nI_leI hj hi]
        by_cases so : s = o
        · refine dn so ?_
          by_cases ij : j ≤ i
          · exact dt ij (fin false (decide_eq_false (by omega)).symm)
          · exact df ij (fin true (decide_eq_true (by omega)).symm)
        · exact dm so (fin false (decide_eq_false (fun z => so z.1)).symm)
      · rw [fb_le, e2, ej] at c
        unfold hld
        exact decide_eq_false (by omega)
  have hz : ∀ q, q < 4 → ¬ gI ρ 31 q = 0 → ∃ n, n ≤ 40 ∧ gI ρ 33 q = nI n := by
    intro q hq hn
    rcases h.sh q hq with ⟨-, z⟩ | ⟨t, n, ht, hn', y1, y2, y3, y4, y5, y6⟩
    · exact absurd z hn
    · exact ⟨n, hn', y5⟩
  rcases h.sh s (by omega) with ⟨x1, x2⟩ | ⟨t, n, ht, hn, x1, x2, x3, x4, x5, x6⟩
  · exact dt x1 (rgo _ (fun _ => ⟨rfl, hrel⟩) (fun z => absurd x2 z) (fun z => absurd x2 z) (fun n m z => absurd x2 z) (fun n m i j k z => absurd x2 z) hz)
  have n31 : ¬ gI ρ 31 s = 0 := by rw [x3]; decide
  refine df (by rw [x1]; exact ne_m1 (by omega)) ?_
  rcases h.sh o (by omega) with ⟨y1, y2⟩ | ⟨t', m, ht', hm, y1, y2, y3, y4, y5, y6⟩
  · exact dn y1 (rgo _ (fun z => absurd z n31) (fun _ _ => ⟨rfl, hrel⟩) (fun _ z => absurd y2 z) (fun n m _ z => absurd y2 z) (fun n m i j k _ z => absurd y2 z) hz)
  have m31 : ¬ gI ρ 31 o = 0 := by rw [y3]; decide
  refine dm (by rw [y1]; exact ne_m1 (by omega)) ?_
  rw [x1, y1, nI_eq (by omega) (by omega)]
  by_cases tt : t = t'
  rotate_left
  · exact df tt (rgo _ (fun z => absurd z n31) (fun _ z => absurd z m31) (fun _ _ _ => ⟨rfl, hrel⟩) (fun n m _ _ z => absurd (nI_inj (by omega) (by omega) (x4.symm.trans (z.trans y4))) tt) (fun n m i j k _ _ z => absurd (nI_inj (by omega) (by omega) (x4.symm.trans (z.trans y4))) tt) hz)
  have t32 : gI ρ 32 s = gI ρ 32 o := by rw [x4, y4, tt]
  refine dt tt ?_
  have rb : (hld n a2 a5 = false ∨ hld m a4 a5 = false) → wX12_copy (nI s) a2 (nI o) a4 a5 ρ (fun r2 ρ1 => (-12 : Int32) = r2 ∧ Rel ids σ ρ1) := by
    intro hh
    refine rgo _ (fun z => absurd z n31) (fun _ z => absurd z m31) (fun _ _ z => absurd t32 z) (fun n' m' _ _ _ hn' hm' en em hh => ⟨rfl, hrel⟩) (fun n' m' i j k _ _ _ hn' hm' en em ei ej ek hi hj τ t1 t2 => ?_) hz
    exfalso
    have n1 := nI_inj (by omega) (by omega) (x5.symm.trans en)
    have m1 := nI_inj (by omega) (by omega) (y5.symm.trans em)
    have q1 := fb_nI (n := i) (by omega)
    have q2 := fb_nI (n := j) (by omega)
    have q3 := fb_nI (n := k) (by omega)
    rw [ei, ej, ek] at hh
    unfold hld at hh
    rw [q1, q2, q3] at hh
    rcases hh with z | z
    · exact absurd (of_decide_eq_false z) (by omega)
    · exact absurd (of_decide_eq_false z) (by omega)
  refine sX_holds x2 hn a2 a5 (bI_d (fun c => rb (Or.inl c)) (fun c1 => ?_))
  refine sX_holds y2 hm a4 a5 (bI_e (fun c => rb (Or.inr c)) (fun c2 => ?_))
  obtain ⟨i, k, rfl, rfl, hik⟩ := hld_t hn c1
  obtain ⟨j, k', rfl, ek, hjk⟩ := hld_t hm c2
  obtain rfl := nI_inj (by omega) (by omega) ek
  refine ⟨⟨nI_pos (by omega), nI_pos (by omega), nI_pos (by omega), ?_, ?_⟩, ?_⟩
  · rw [nI_clamp (by omega), nI_clamp (by omega)]; omega
  · rw [nI_clamp (by omega), nI_clamp (by omega)]; omega
  rw [nI_clamp (by omega), nI_clamp (by omega), nI_clamp (by omega)]
  rintro σ2 rfl
  refine rgo _ (fun z => absurd z n31) (fun _ z => absurd z m31) (fun _ _ z => absurd t32 z) (fun n' m' _ _ _ hn' hm' en em hh => ?_) (fun n' m' i' j' k' _ _ _ hn' hm' en em ei ej ek hi hj τ t1 t2 => ?_) hz
  · exfalso
    obtain rfl := nI_inj (by omega) (by omega) (x5.symm.trans en)
    obtain rfl := nI_inj (by omega) (by omega) (y5.symm.trans em)
    rw [c1, c2] at hh
    simp at hh
  · obtain rfl := nI_inj (by omega) (by omega) ei
    obtain rfl := nI_inj (by omega) (by omega) ej
    obtain rfl := nI_inj (by omega) (by omega) ek
    have gX : ∀ c x, gI (rI σ (44 + 2 * o + 1) (va_cpy (gI σ (44 + 2 * s + 1)) (gI σ (44 + 2 * o + 1)) i j k)) c x = if c = 44 + 2 * o + 1 then (if j ≤ x ∧ x < j + k then gI σ (44 + 2 * s + 1) (i + (x - j)) else gI σ (44 + 2 * o + 1) x) else gI σ c x := fun c x => by
      rw [gI_rI]
      rfl
    refine ⟨rfl, RW.rel (W := W) ?_⟩
    refine h.host (fun c x hc => ?_) (fun c x hc => t1 c x (by omega)) (fun _ _ => rfl) (fun q hq => ?_)
    · rw [gX, if_neg (by omega)]
    · by_cases e : q = o
      · subst e
        right
        refine ⟨t', m, ht', hm, ?_, ?_, ?_, ?_, ?_, fun x hx => ?_⟩
        · rw [gX, if_neg (by omega)]; exact y1
        · rw [gX, if_neg (by omega)]; exact y2
        · rw [t1 _ _ (by omega)]; exact y3
        · rw [t1 _ _ (by omega)]; exact y4
        · rw [t1 _ _ (by omega)]; exact y5
        · rw [gX, if_pos (by omega), t2]
          have x6' : ∀ y, y < n → gI σ (44 + 2 * s + 1) y = gI ρ 34 (40 * s + y) := fun y hy => by
            have z := x6 y hy
            rw [show 45 + 2 * s = 44 + 2 * s + 1 by omega] at z
            exact z
          have y6' : ∀ y, y < m → gI σ (44 + 2 * q + 1) y = gI ρ 34 (40 * q + y) := fun y hy => by
            have z := y6 y hy
            rw [show 45 + 2 * q = 44 + 2 * q + 1 by omega] at z
            exact z
          by_cases c : j ≤ x ∧ x < j + k
          · rw [if_pos c, if_pos (by omega), x6' _ (by omega)]
            congr 1
            omega
          · rw [if_neg c, if_neg (by omega)]
            exact y6' x hx
      · refine (h.sh q hq).cg (fun x => ?_) (fun x => ?_) (t1 _ _ (by omega)) (t1 _ _ (by omega)) (t1 _ _ (by omega)) (fun x hx => ?_)
        · rw [gX, if_neg (by omega)]
        · rw [gX, if_neg (by omega)]
        · rw [t2, if_neg (by omega)]
-- drums
theorem pc_drums {ids : List Nat} {σ ρ : St} (a1 : Int32) (a2 : Int32) (a3 : Int32) (a4 : Int32) (h : Rel ids σ ρ) : wX11_drums ids a1 a2 a3 a4 σ (fun r σ1 => wX12_drums a1 a2 a3 a4 ρ (fun r2 ρ1 => r = r2 ∧ Rel ids σ1 ρ1)) := by
  obtain ⟨-, W, h⟩ := h
  have hrel := h.rel
  refine sX_isSheet a1 (bI_d (fun b => ?_) (fun b => ?_))
  · refine sR_isSheet a1 ?_
    rw [b]
    exact dt rfl ⟨rfl, hrel⟩
  obtain ⟨s, hs, rfl⟩ := wi_k (N := 3) b
  refine sX_isSort a2 (bI_d (fun b2 => ?_) (fun b2 => ?_))
  · refine sR_isSheet _ ?_
    rw [b]
    refine df (by decide) (sR_inI 0 2 rfl rfl ?_)
    rw [b2]
    exact dt rfl ⟨rfl, hrel⟩
  refine sX_within 0 12 rfl rfl (bI_e (fun b3 => ?_) (fun b3 => ?_))
  · refine sR_isSheet _ ?_
    rw [b]
    refine df (by decide) (sR_inI 0 2 rfl rfl ?_)
    rw [b2]
    refine df (by decide) (sR_inI 0 12 rfl rfl ?_)
    rw [b3]
    exact dn rfl ⟨rfl, hrel⟩
  obtain ⟨n, hn, rfl⟩ := wi_k (N := 12) b3
  refine ⟨vin (by omega) (by omega), ?_⟩
  rw [nI_clamp (by omega)]
  have rgo : ∀ P : Int32 → St → Prop, (gI ρ 31 s = 0 → P (-11) ρ) → (¬ gI ρ 31 s = 0 → ¬ gI ρ 32 s = a2 → P (-13) ρ) → (¬ gI ρ 31 s = 0 → gI ρ 32 s = a2 → ∃ N, wX12_drums_75 P (nI s) a3 (nI n) N 0 0 ρ) → wX12_drums (nI s) a2 a3 (nI n) ρ P := by
    intro P p1 p2 p3
    refine sR_isSheet _ ?_
    rw [b]
    refine df (by decide) (sR_inI 0 2 rfl rfl ?_)
    rw [b2]
    refine df (by decide) (sR_inI 0 12 rfl rfl ?_)
    rw [b3]
    refine dm (by decide) ⟨vin (by omega) (by omega), ?_⟩
    unfold wX12_drums_57
    rw [nI_clamp (by omega)]
    refine ⟨fun z => ⟨vin (by omega) (by omega), ⟨fun y => absurd z y, p1⟩⟩, fun z => ⟨fun y => ⟨vin (by omega) (by omega), ⟨fun _ => p3 z y, p1⟩⟩, fun y => p2 z y⟩⟩
  rcases h.sh s (by omega) with ⟨x1, x2⟩ | ⟨t, m, ht, hm, x1, x2, x3, x4, x5, x6⟩
  · exact dn x1 (rgo _ (fun _ => ⟨rfl, hrel⟩) (fun z => absurd x2 z) (fun z => absurd x2 z))
  have n31 : ¬ gI ρ 31 s = 0 := by rw [x3]; decide
  refine dm (by rw [x1]; exact ne_m1 (by omega)) ?_
  rw [x1]
  refine ⟨fun c => ?_, fun c => rgo _ (fun z => absurd z n31) (fun _ _ => ⟨rfl, hrel⟩) (fun _ z => absurd (x4.symm.trans z) c)⟩
  have rgo2 : ∀ P : Int32 → St → Prop, (∃ N, wX12_drums_75 P (nI s) a3 (nI n) N 0 0 ρ) → wX12_drums (nI s) a2 a3 (nI n) ρ P := fun P hP => rgo P (fun z => absurd z n31) (fun _ z => absurd (x4.trans c) z) (fun _ _ => hP)
  have e40 : (40 : Int32) = nI 40 := rfl
  refine lpc2 (wX11_drums_66 ids _ a3 (nI n) (44 + 2 * s)) n (by omega) (fun k v τ => ∃ W' ρ', RW W' ids τ ρ' ∧ (∀ c j, 44 ≤ c → c < 52 → gI τ c j = gI σ c j) ∧ (∀ c j, (31 ≤ c ∧ c ≤ 34) → gI ρ' c j = gI ρ c j) ∧ ∀ P, (∃ N, wX12_drums_75 P (nI s) a3 (nI n) N v (nI k) ρ') → ∃ N, wX12_drums_75 P (nI s) a3 (nI n) N 0 0 ρ) ?_ ?_ 0 σ ⟨W, ρ, h, fun _ _ _ _ => rfl, fun _ _ _ => rfl, fun P hP => hP⟩
  · rintro N k τ ⟨W', ρ', h', u1, u2, hr⟩
    rw [wX11_drums_66_s]
    refine dt (nI_le (Nat.le_refl _) (by omega)) (rgo2 _ (hr _ ⟨1, ?_⟩))
    rw [wX12_drums_75_s]
    exact dt (nI_le (Nat.le_refl _) (by omega)) ⟨rfl, h'.rel⟩
  · rintro N k v τ hk ⟨W', ρ', h', u1, u2, hr⟩ kk
    rw [wX11_drums_66_s]
    have em : ((nI m - 1) - nI k).toInt = (m : Int) - 1 - k := by
      cases m with
      | zero =>
        rw [nI_0, Int32.toInt_sub, fb_nI (by omega)]
        have : (0 - 1 : Int32).toInt = -1 := by decide
        rw [this]
        exact Int.bmod_eq_of_le (by omega) (by omega)
      | succ m =>
        rw [nI_pred, sub_toInt (by omega) (by omega)]
        omega
    refine df (nI_ge hk (by omega)) (sX_within 0 ((m : Int) - 1 - k) rfl (by rw [u1 _ _ (by omega) (by omega), x2]; exact em) (bI_e (fun b4 => ?_) (fun b4 => ?_)))
    · refine rgo2 _ (hr _ ⟨1, ?_⟩)
      rw [wX12_drums_75_s]
      have nb : ¬ (0 ≤ a3.toInt ∧ a3.toInt ≤ (m : Int) - 1 - k) := of_decide_eq_false b4
      refine df (nI_ge hk (by omega)) ⟨fun _ => ⟨rfl, h'.rel⟩, fun c0 => ⟨vin (by omega) (by omega), ?_⟩⟩
      rw [nI_clamp (by omega), u2 _ _ (by omega), x5]
      refine ⟨fun c1 => ?_, fun _ => ⟨rfl, h'.rel⟩⟩
      exfalso
      rw [fb_lt, z32] at c0
      have e1 : ((nI m - nI k) - 1).toInt = (m : Int) - k - 1 := by
        rw [Int32.toInt_sub, sub_toInt hm (by omega)]
        have : (1 : Int32).toInt = 1 := by decide
        rw [this]
        exact Int.bmod_eq_of_le (by omega) (by omega)
      rw [fb_le, e1] at c1
      omega
    · have yb := of_decide_eq_true b4
      obtain ⟨i, hi, ei⟩ := fb_of (x := a3) (N := 40) yb.1 (by omega)
      subst ei
      rw [fb_nI (by omega)] at yb
      refine ⟨by rw [nI_add]; exact vin (by omega) (by omega), ?_⟩
      rw [nI_add, nI_clamp (by omega)]
      obtain ⟨r, σ1, ρ1, W1, h1, v1, v2, g1, g2⟩ := drum_go (gI τ (44 + 2 * s + 1) (i + k)) h'
      have eit : gI τ (44 + 2 * s + 1) (i + k) = gI ρ' 34 (40 * s + i + k) := by
        have z := x6 (i + k) (by omega)
        rw [show 45 + 2 * s = 44 + 2 * s + 1 by omega] at z
        rw [u1 _ _ (by omega) (by omega), u2 _ _ (by omega), z]
        congr 1
        omega
      have rstep : ∀ v', v' = (if r < 0 then v else v + 1) → ∀ P, (∃ N, wX12_drums_75 P (nI s) (nI i) (nI n) N v' (nI (k + 1)) ρ1) → ∃ N, wX12_drums_75 P (nI s) (nI i) (nI n) N 0 0 ρ := by
        rintro v' rfl P ⟨N, hN⟩
        refine hr P ⟨N + 1, ?_⟩
        rw [wX12_drums_75_s]
        refine df (nI_ge hk (by omega)) (df (nI_pos (by omega)) ⟨vin (by omega) (by omega), ?_⟩)
        rw [nI_clamp (by omega), u2 _ _ (by omega), x5]
        have e1 : ((nI m - nI k) - 1).toInt = (m : Int) - k - 1 := by
          rw [Int32.toInt_sub, sub_toInt hm (by omega)]
          have : (1 : Int32).toInt = 1 := by decide
          rw [this]
          exact Int.bmod_eq_of_le (by omega) (by omega)
        have cc : nI i ≤ (nI m - nI k) - 1 := by
          rw [fb_le, e1, fb_nI (by omega)]
          omega
        refine dt cc ?_
        rw [e40, nI_mul, nI_add, nI_add]
        refine ⟨vin (by omega) (by omega), ?_⟩
        rw [nI_clamp (by omega), ← eit]
        refine g2 _ ⟨fun c => ?_, fun c => ?_⟩
        · rintro w1 rfl w2 rfl
          rw [nI_1, Int32.add_zero]
          rw [if_pos c] at hN
          exact hN
        · rintro w1 rfl w2 rfl
          rw [nI_1]
          rw [if_neg c] at hN
          exact hN
      refine g1 _ ⟨fun c => ?_, fun c => ?_⟩
      · rintro w rfl
        rw [nI_1]
        exact kk _ _ ⟨W1, ρ1, h1, fun c' j q1 q2 => (v1 c' j q1 q2).trans (u1 c' j q1 q2), fun c' j q1 => (v2 c' j q1).trans (u2 c' j q1), rstep _ (by rw [if_pos c])⟩
      · rintro w1 rfl w2 rfl
        rw [nI_1]
        exact kk _ _ ⟨W1, ρ1, h1, fun c' j q1 q2 => (v1 c' j q1 q2).trans (u1 c' j q1 q2), fun c' j q1 => (v2 c' j q1).trans (u2 c' j q1), rstep _ (by rw [if_neg c])⟩
