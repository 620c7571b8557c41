/-! PURE: text -/
/-- a fault lies in the text -/
def Gde (n : Nat) (f : Nat → Rs) : Prop := ∀ c p, c ≤ n → f c = .error p → p ≤ n
theorem Gde_bl {b : By} {n : Nat} {f : Nat → Rs} {op : Nat → Option Int32} (hf : Gdd n f) (he : Gde n f) (hop : Opk b n op) : ∀ fuel c L p, c ≤ n → bl op (nx b n) f fuel c L = .error p → p ≤ n := by
  intro fuel
  induction fuel with
  | zero =>
    intro c L p h2 e
    rw [bl_0] at e
    exact absurd e (by simp)
  | succ fuel ih =>
    intro c L p h2 e
    rw [bl_s] at e
    cases eo : op c with
    | none =>
      simp only [eo] at e
      exact absurd e (by simp)
    | some s =>
      obtain ⟨t, hs⟩ := hop c s eo
      have hnx := nx_gt h2 t
      cases ef : f (nx b n c) with
      | error p' =>
        simp only [eo, ef] at e
        have := he _ _ hnx.2 ef
        have := Except.error.inj e
        omega
      | ok r =>
        obtain ⟨c1, L1⟩ := r
        simp only [eo, ef] at e
        exact ih c1 _ p (hf _ _ _ hnx.2 ef).2.1 e
theorem Gde_bin {b : By} {n : Nat} {f : Nat → Rs} {op : Nat → Option Int32} (hf : Gdd n f) (he : Gde n f) (hop : Opk b n op) : Gde n (bin op (nx b n) f) := by
  intro c p hc e
  cases ef : f c with
  | error p' =>
    rw [bin_e ef] at e
    have := he _ _ hc ef
    have := Except.error.inj e
    omega
  | ok r =>
    obtain ⟨c1, L1⟩ := r
    rw [bin_o ef] at e
    exact Gde_bl hf he hop 160 c1 L1 p (hf _ _ _ hc ef).2.1 e
def Gdeo (b : By) (n : Nat) (o : Nat → Nat → Rs) : Prop := ∀ sel c p, c ≤ n → ¬ tk b n c = 0 → o sel c = .error p → p ≤ n
theorem Gde_O {b : By} {n : Nat} {o : Nat → Nat → Rs} (ho : Gddo b n o) (he : Gdeo b n o) : Gde n (mkO b n o) := by
  intro c p hc e
  have hpc := pc_le b n c hc
  unfold mkO at e
  by_cases t : tk b n c = 2 ∨ tk b n c = 3
  · rw [if_pos t] at e
    exact absurd e (by simp)
  · rw [if_neg t] at e
    by_cases t45 : tk b n c = 45
    · cases ef : o 5 c with
      | error p' =>
        simp only [if_pos t45, ef] at e
        have := he _ _ _ hc (by omega) ef
        have := Except.error.inj e
        omega
      | ok r =>
        obtain ⟨c1, L1⟩ := r
        simp only [if_pos t45, ef] at e
        exact absurd e (by simp)
    · rw [if_neg t45] at e
      by_cases t40 : tk b n c = 40
      · cases ef : o 0 c with
        | error p' =>
          simp only [if_pos t40, ef] at e
          have := he _ _ _ hc (by omega) ef
          have := Except.error.inj e
          omega
        | ok r =>
          obtain ⟨c1, L1⟩ := r
          simp only [if_pos t40, ef] at e
          obtain ⟨g1, g2, -⟩ := ho _ _ _ _ hc (by omega) ef
          have hp1 := pc_le b n c1 g2
          by_cases t41 : tk b n c1 = 41
          · rw [if_pos t41] at e
            exact absurd e (by simp)
          · rw [if_neg t41] at e
            have := Except.error.inj e
            omega
      · rw [if_neg t40] at e
        have := Except.error.inj e
        omega
theorem Gde_T {b : By} {n : Nat} {o : Nat → Nat → Rs} (ho : Gddo b n o) (he : Gdeo b n o) : Gde n (mkT b n o) := Gde_bin (Gdd_O ho) (Gde_O ho he) (opk_T b n)
theorem Gde_A {b : By} {n : Nat} {o : Nat → Nat → Rs} (ho : Gddo b n o) (he : Gdeo b n o) : Gde n (mkA b n o) := Gde_bin (Gdd_T ho) (Gde_T ho he) (opk_A b n)
theorem Gde_C {b : By} {n : Nat} {o : Nat → Nat → Rs} (ho : Gddo b n o) (he : Gdeo b n o) : Gde n (mkC b n o) := by
  intro c p hc e
  have hA := Gdd_A ho
  have hE := Gde_A ho he
  unfold mkC at e
  cases e1 : mkA b n o c with
  | error p' =>
    simp only [e1] at e
    have := hE _ _ hc e1
    have := Except.error.inj e
    omega
  | ok r =>
    obtain ⟨c1, L1⟩ := r
    simp only [e1] at e
    obtain ⟨g1, g2, -⟩ := hA _ _ _ hc e1
    cases eo : opC b n c1 with
    | none =>
      simp only [eo] at e
      exact absurd e (by simp)
    | some s =>
      obtain ⟨t, hs⟩ := opk_C b n c1 s eo
      have hnx := nx_gt g2 t
      cases e2 : mkA b n o (nx b n c1) with
      | error p' =>
        simp only [eo, e2] at e
        have := hE _ _ hnx.2 e2
        have := Except.error.inj e
        omega
      | ok r =>
        obtain ⟨c2, L2⟩ := r
        simp only [eo, e2] at e
        exact absurd e (by simp)
theorem Gde_N {b : By} {n : Nat} {o : Nat → Nat → Rs} (ho : Gddo b n o) (he : Gdeo b n o) : Gde n (mkN b n o) := by
  intro c p hc e
  unfold mkN at e
  by_cases t : tk b n c = 9
  · cases ef : o 2 c with
    | error p' =>
      simp only [if_pos t, ef] at e
      have := he _ _ _ hc (by omega) ef
      have := Except.error.inj e
      omega
    | ok r =>
      obtain ⟨c1, L1⟩ := r
      simp only [if_pos t, ef] at e
      exact absurd e (by simp)
  · rw [if_neg t] at e
    exact Gde_C ho he c p hc e
theorem Gde_B {b : By} {n : Nat} {o : Nat → Nat → Rs} (ho : Gddo b n o) (he : Gdeo b n o) : Gde n (mkB b n o) := Gde_bin (Gdd_N ho) (Gde_N ho he) (opk_B b n)
theorem Gde_E {b : By} {n : Nat} {o : Nat → Nat → Rs} (ho : Gddo b n o) (he : Gdeo b n o) : Gde n (mkE b n o) := Gde_bin (Gdd_B ho) (Gde_B ho he) (opk_E b n)
theorem Gde_opn {b : By} {n : Nat} : ∀ r, Gdeo b n (opn b n r) := by
  intro r
  induction r with
  | zero =>
    intro sel c p hc t e
    rw [opn_0] at e
    have := pc_le b n c hc
    have := Except.error.inj e
    omega
  | succ r ih =>
    intro sel c p hc t e
    have hn := nx_gt hc t
    rw [opn_s] at e
    split at e
    · exact Gde_E (Gdd_opn r) ih _ _ hn.2 e
    · split at e
      · exact Gde_N (Gdd_opn r) ih _ _ hn.2 e
      · exact Gde_O (Gdd_opn r) ih _ _ hn.2 e
theorem Gde_pt {b : By} {n key : Nat} (hk : 1 ≤ key) : Gde n (pPt b n key) := by
  intro c p hc e
  have hpc := pc_le b n c hc
  unfold pPt at e
  by_cases t : tk b n c = key
  · have hn := nx_gt hc (show ¬ tk b n c = 0 by omega)
    cases ef : mkE b n (opn b n 5) (nx b n c) with
    | error p' =>
      simp only [if_pos t, ef] at e
      have := Gde_E (Gdd_opn 5) (Gde_opn 5) _ _ hn.2 ef
      have := Except.error.inj e
      omega
    | ok r =>
      obtain ⟨c1, L1⟩ := r
      simp only [if_pos t, ef] at e
      obtain ⟨g1, g2, -⟩ := Gdd_E (Gdd_opn 5) _ _ _ hn.2 ef
      have hp1 := pc_le b n c1 g2
      by_cases t59 : tk b n c1 = 59
      · rw [if_pos t59] at e
        exact absurd e (by simp)
      · rw [if_neg t59] at e
        have := Except.error.inj e
        omega
  · rw [if_neg t] at e
    have := Except.error.inj e
    omega
theorem pAll_er {b : By} {n p : Nat} (e : pAll b n = .error p) : p ≤ n := by
  unfold pAll at e
  cases p0 : pPt b n 4 0 with
  | error p' =>
    simp only [p0] at e
    have := Gde_pt (by decide) _ _ (Nat.zero_le _) p0
    have := Except.error.inj e
    omega
  | ok r0 =>
    obtain ⟨c1, M0⟩ := r0
    simp only [p0] at e
    obtain ⟨-, g2, -⟩ := Gdd_pt (by decide) _ _ _ (Nat.zero_le _) p0
    cases p1 : pPt b n 5 c1 with
    | error p' =>
      simp only [p1] at e
      have := Gde_pt (by decide) _ _ g2 p1
      have := Except.error.inj e
      omega
    | ok r1 =>
      obtain ⟨c2, M1⟩ := r1
      simp only [p1] at e
      obtain ⟨-, k2, -⟩ := Gdd_pt (by decide) _ _ _ g2 p1
      cases p2 : pPt b n 6 c2 with
      | error p' =>
        simp only [p2] at e
        have := Gde_pt (by decide) _ _ k2 p2
        have := Except.error.inj e
        omega
      | ok r2 =>
        obtain ⟨c3, M2⟩ := r2
        simp only [p2] at e
        obtain ⟨-, l2, -⟩ := Gdd_pt (by decide) _ _ _ k2 p2
        have := pc_le b n c3 l2
        split at e
        · exact absurd e (by simp)
        · have := Except.error.inj e
          omega
theorem RW.ref {W : Vw} {ids : List Nat} {σ ρ : St} (h : RW W ids σ ρ) {d : Nat} (hd : d < 52 ∧ ¬ d = 19) : RW W ids (uR σ 2 6 (some d)) ρ := by
  obtain ⟨h1, ⟨⟨f1, f2, f3⟩, m, dx, ix, ts⟩, h3, h4, h5⟩ := h
  refine ⟨h1, ⟨⟨f1, f2, ?_⟩, ⟨m.1, m.2.1, fun i hi => ?_, fun k hk => ?_, m.2.2.2.2⟩, dx, ix, ts⟩, h3, h4, h5⟩
  · intro c hc k e he
    rw [gR_uR] at he
    split at he
    · rw [← Option.some.inj he]
      exact f1 d hd
    · exact f3 c hc k e he
  · have := m.m hi
    rw [gR_uR, if_neg (by omega)]
    exact this
  · have := m.b hk
    rw [gR_uR, if_neg (by omega)]
    exact this
def wtx (W : Vw) (n12 : Nat) : Vw := wu (wu W 0 14 0) 0 12 n12
/-- a text read -/
theorem text_up {W : Vw} {ids : List Nat} {σ σ' ρ ρ' : St} (h : RW W ids σ ρ) {n12 : Nat} (hn : n12 = W 0 12 ∨ (n12 = W 0 12 + 1 ∧ W 0 12 < 6 ∧ Tx σ' ρ' (W 0 12))) (ht : W 0 12 < 6) (hX : ∀ c j, ¬ ((c = 0 ∧ j = 3) ∨ (c = 2 ∧ 1 ≤ j ∧ j ≤ 5) ∨ (c = 20 + 4 * W 0 12 ∧ j = 1) ∨ c = 20 + 4 * W 0 12 + 1 ∨ c = 20 + 4 * W 0 12 + 2) → gI σ' c j = gI σ c j) (hRR : ∀ c k, gR σ' c k = gR σ c k) (h03 : gI σ' 0 3 = nI n12) (h21 : gI σ' 2 1 = 0) (hR : ∀ c j, ¬ ((c = 0 ∧ (j = 3 ∨ j = 6 ∨ (36 ≤ j ∧ j ≤ 50))) ∨ (c = 1 ∧ 160 * W 0 12 ≤ j) ∨ (c = 2 ∧ j = W 0 12)) → gI ρ' c j = gI ρ c j) (r03 : gI ρ' 0 3 = nI n12) (r06 : gI ρ' 0 6 = 0) : RW (wtx W n12) ids σ' ρ' := by
  have hv := h.iv
  obtain ⟨d1, d2, d3, d4, d5, d6, d7, d8⟩ := h.dv
  have w : ∀ x y, ¬ (x = 0 ∧ (y = 12 ∨ y = 14)) → wtx W n12 x y = W x y := fun x y g => by
    unfold wtx wu
    rw [if_neg (by omega), if_neg (by omega)]
  have w12 : wtx W n12 0 12 = n12 := rfl
  have w14 : wtx W n12 0 14 = 0 := rfl
  have hn' : W 0 12 ≤ n12 ∧ n12 ≤ 6 ∧ n12 ≤ W 0 12 + 1 := by omega
  obtain ⟨t1, t2, t3, t4⟩ := h.ts
  obtain ⟨q1, q2, q3, q4⟩ := h.tq
  refine ⟨⟨hv.fr (fun x y hc => ?_), ?_⟩, ⟨h.fr.fr (w _ _ (by omega)) (w _ _ (by omega)) (fun k => w _ _ (by omega)) hRR, h.mx.fr hv (fun x y hc => ?_) (fun c k hk => ?_) hRR, h.dx.fr hv (fun x y hc => ?_) (fun c k hk => ?_), h.ix.fr hv (fun x y hc => ?_) (fun c k hk => ?_), ?_⟩, ⟨h.mr.fr (fun x y hc => ?_) (fun c k hk => ?_), h.dr.fr (fun x y hc => ?_) (fun c k hk => ?_), h.ir.fr (fun x y hc => ?_) (fun c k hk => ?_), ?_⟩, fun s hs => ?_, fun s hs => ?_⟩
  · unfold cM at hc; exact w _ _ (by omega)
  · unfold Dv
    rw [w12, w14, w 0 5 (by omega), w 0 6 (by omega), w 0 7 (by omega), w 0 4 (by omega), w 0 8 (by omega), w 0 3 (by omega), w 0 13 (by omega), w 0 9 (by omega), w 0 10 (by omega), w 0 11 (by omega)]
    have g : ∀ a b, 1 ≤ a → wtx W n12 a b = W a b := fun a b ha => w a b (by omega)
    simp only [g 4 _ (by omega), g 15 _ (by omega), g 16 _ (by omega), g 18 _ (by omega), g 19 _ (by omega), g 20 _ (by omega), g 21 _ (by omega), g 22 _ (by omega), g 23 _ (by omega), g 24 _ (by omega), g 25 _ (by omega), g 26 _ (by omega)]
    refine ⟨by omega, fun z => ?_, d3, d4, d5, d6, d7, fun i hi => absurd hi (Nat.not_lt_zero _)⟩
    have := d2 z
    omega
  · unfold cM at hc; exact w _ _ (by omega)
  · unfold kM at hk; exact hX _ _ (by omega)
  · unfold cD at hc; exact w _ _ (by omega)
  · unfold kD at hk; exact hX _ _ (by omega)
  · unfold cI at hc; exact w _ _ (by omega)
  · unfold kI at hk; exact hX _ _ (by omega)
  · refine ⟨by rw [h03, w12], ?_, by rw [h21, w14]; rfl, fun i hi => ?_⟩
    · rw [hX _ _ (by omega), w _ _ (by omega)]; exact t2
    · rw [w14] at hi; exact absurd hi (Nat.not_lt_zero _)
  · unfold cM at hc; exact w _ _ (by omega)
  · unfold qM at hk; exact hR _ _ (by omega)
  · unfold cD at hc; exact w _ _ (by omega)
  · unfold qD at hk; exact hR _ _ (by omega)
  · unfold cI at hc; exact w _ _ (by omega)
  · unfold qI at hk; exact hR _ _ (by omega)
  · refine ⟨by rw [r03, w12], ?_, by rw [r06, w14]; rfl, fun i hi => ?_⟩
    · rw [hR _ _ (by omega), w _ _ (by omega)]; exact q2
    · rw [w14] at hi; exact absurd hi (Nat.not_lt_zero _)
  · rw [w12] at hs
    rcases Nat.lt_or_ge s (W 0 12) with g | g
    · obtain ⟨b, n, L0, L1, L2, x1, x2, x3⟩ := h.tx s g
      refine ⟨b, n, L0, L1, L2, ⟨?_, x1.2.1, fun i hi => ⟨(x1.2.2 i hi).1, ?_⟩⟩, x2, fun i hi => ?_, ?_, ?_, ?_⟩
      · rw [hR _ _ (by omega)]; exact x1.1
      · have := x1.2.1
        rw [hR _ _ (by omega)]; exact (x1.2.2 i hi).2
      · rw [hX _ _ (by omega)]; exact x3.1 i hi
      · rw [hX _ _ (by omega)]; exact x3.2.1
      · rw [hX _ _ (by omega)]; exact x3.2.2.1
      · rw [hX _ _ (by omega)]; exact x3.2.2.2
    · rcases hn with e | ⟨e, -, hx⟩
      · omega
      · have : s = W 0 12 := by omega
        subst this
        exact hx
  · exact (h.sh s hs).cg (fun k => hX _ _ (by omega)) (fun k => hX _ _ (by omega)) (hR _ _ (by omega)) (hR _ _ (by omega)) (hR _ _ (by omega)) (fun k _ => hR _ _ (by omega))
theorem pc_text {ids : List Nat} {σ ρ : St} (h : Rel ids σ ρ) : wX11_text ids σ (fun r σ1 => wX12_text ρ (fun r2 ρ1 => r = r2 ∧ Rel ids σ1 ρ1)) := by
  obtain ⟨h52, W, h⟩ := h
  have hv := h.iv
  obtain ⟨d1, d2, d3, d4, d5, d6, d7, d8⟩ := h.dv
  obtain ⟨t1, t2, t3, t4⟩ := h.ts
  obtain ⟨q1, q2, q3, q4⟩ := h.tq
  unfold wX11_text
  have e6 : (nI (W 0 12) = (6 : Int32)) ↔ W 0 12 = 6 := nI_eq (b := 6) (by omega) (by omega)
  rw [t1, e6]
  refine ⟨fun z => ?_, fun z => ?_⟩
  rotate_left
  · unfold wX12_text
    rw [q1, e6]
    exact dn z ⟨rfl, h.rel⟩
  have ht : W 0 12 < 6 := by omega
  refine ⟨vin ht (by omega), ?_⟩
  rw [nI_clamp (by omega)]
  have hT : okT ids (20 + 4 * W 0 12) := ⟨h52 _ (by omega), by omega, by omega, by omega⟩
  have hB : TBx (W 26) (W 0 14) σ := ⟨by omega, t3, fun i hi => ⟨d8 i hi, t4 i hi⟩⟩
  refine sX_readInto hT hB (fun r σ1 F1 R1 S1 O1 => ?_)
  have h0 := h.ref (d := 20 + 4 * W 0 12) (by omega)
  have FR : ∀ c k, gR σ1 c k = gR (uR σ 2 6 (some (20 + 4 * W 0 12))) c k := fun c k => by
    rw [gR_uR]
    split
    · rename_i q
      rw [q.1, q.2]; exact R1
    · rename_i q
      exact F1.2.2 c k q
  have s03 : gI σ1 0 3 = nI (W 0 12) := (F1.1 _ _ (by omega)).trans t1
  -- the reference's way to its reading
  have rgo : ∀ P : Int32 → St → Prop, (∀ τ, TRt (W 26) (W 0 14) τ (W 0 12) → (∀ c j, ¬ ((c = 0 ∧ j = 6) ∨ (c = 1 ∧ 160 * W 0 12 ≤ j) ∨ (c = 2 ∧ j = W 0 12)) → gI τ c j = gI ρ c j) → gI τ 0 6 = 0 → ∀ v ρ1, RG τ ρ1 → OutA (W 26) (W 0 14) (nm6 0 0 0 0 0 0) 0 v ρ1 → ((gI ρ1 0 43 = 0 → ∀ s8, s8 = uI ρ1 0 3 (gI ρ1 0 3 + 1) → P (gI s8 0 3 - 1) s8) ∧ (¬ gI ρ1 0 43 = 0 → P (-100 - gI ρ1 0 44) ρ1))) → wX12_text ρ P := by
    intro P hP
    unfold wX12_text
    rw [q1, e6]
    refine dm z ?_
    refine lpq1 (A1 := Int32) (fun N a τ => wX12_text_14 P N a τ) (fun m a τ => ∃ i, a = nI i ∧ i ≤ W 0 14 ∧ m = W 0 14 - i ∧ (∀ c j, ¬ (c = 1 ∧ 160 * W 0 12 ≤ j) → gI τ c j = gI ρ c j) ∧ ∀ j, j < i → gI τ 1 (160 * W 0 12 + j) = nI (W 26 j)) ?_ (W 0 14) 0 ρ ⟨0, rfl, Nat.zero_le _, rfl, fun _ _ _ => rfl, fun j hj => absurd hj (Nat.not_lt_zero _)⟩
    rintro N m a τ ⟨i, rfl, hi, rfl, F, C⟩ kk
    show wX12_text_14 P (N + 1) (nI i) τ
    rw [wX12_text_14_s]
    have a6 : gI τ 0 6 = nI (W 0 14) := (F _ _ (by omega)).trans q3
    have a3 : gI τ 0 3 = nI (W 0 12) := (F _ _ (by omega)).trans q1
    rw [a6, a3, nI_leI (by omega) (by omega)]
    have e160 : (160 : Int32) * nI (W 0 12) + nI i = nI (160 * W 0 12 + i) := by
      have e : (160 : Int32) = nI 160 := rfl
      rw [e, nI_mul, nI_add]
    refine ⟨fun g => ⟨vin ht (by omega), ?_⟩, fun g => ⟨vin (by omega) (by omega), ?_⟩⟩
    · rw [nI_clamp (by omega)]
      rintro _ rfl _ rfl
      have T1 : TRt (W 26) (W 0 14) (uI (uI τ 2 (W 0 12) (nI (W 0 14))) 0 6 0) (W 0 12) := by
        refine ⟨?_, by omega, fun j hj => ⟨d8 j hj, ?_⟩⟩
        · rw [gI_o (by omega), gI_s]
        · rw [gI_o (by omega), gI_o (by omega)]
          exact C j (by omega)
      have b3 : gI (uI (uI τ 2 (W 0 12) (nI (W 0 14))) 0 6 0) 0 3 = nI (W 0 12) := by
        rw [gI_o (by omega), gI_o (by omega)]; exact a3
      rw [b3]
      refine sR_read (k := 0) ht T1 (by decide) (fun v ρ1 G O => ?_)
      refine hP _ T1 (fun c j hn => ?_) gI_s v ρ1 G O
      rw [gI_o (by omega), gI_o (by omega)]
      exact F c j (by omega)
    · rw [e160]
      refine ⟨vin (by omega) (by omega), ?_⟩
      rw [nI_clamp (by omega), nI_clamp (by omega)]
      rintro _ rfl _ rfl
      rw [nI_1]
      have a3i : gI τ 3 i = nI (W 26 i) := (F _ _ (by omega)).trans (q4 i (by omega))
      rw [a3i]
      refine kk _ _ _ ⟨i + 1, rfl, by omega, rfl, fun c j hn => ?_, fun j hj => ?_⟩ (by omega)
      · rw [gI_o (by omega)]; exact F c j hn
      · rcases Nat.lt_or_ge j i with y | y
        · rw [gI_o (by omega)]; exact C j y
        · have : j = i := by omega
          subst this
          exact gI_s
  cases ep : pAll (W 26) (W 0 14) with
  | error p =>
    unfold OutI at O1
    rw [ep] at O1
    simp only at O1
    have hp := pAll_er ep
    refine df (by rw [O1]; exact ne_m1 (by omega)) (rgo _ (fun τ T1 F G6 v ρ1 G O => ?_))
    unfold OutA at O
    rw [ep] at O
    simp only at O
    refine df (by rw [O.1]; decide) ⟨by rw [O1, O.2], ?_⟩
    refine RW.rel (W := wtx W (W 0 12)) (text_up h0 (Or.inl rfl) ht (fun c j hn => F1.1 c j (by omega)) FR s03 S1 (fun c j hn => ?_) ?_ ?_)
    · rw [G.1 _ _ (by omega)]; exact F c j (by omega)
    · rw [G.1 _ _ (by omega), F _ _ (by omega)]; exact q1
    · rw [G.1 _ _ (by omega)]; exact G6
  | ok r3 =>
    obtain ⟨L0, L1, L2⟩ := r3
    unfold OutI at O1
    rw [ep] at O1
    simp only at O1
    refine dt O1.1 ?_
    rintro _ rfl
    rw [s03, gI_s, nI_1]
    refine rgo _ (fun τ T1 F G6 v ρ1 G O => ?_)
    unfold OutA at O
    rw [ep] at O
    simp only at O
    refine dt O.1 ?_
    rintro _ rfl
    have r03 : gI ρ1 0 3 = nI (W 0 12) := by rw [G.1 _ _ (by omega), F _ _ (by omega)]; exact q1
    rw [r03, gI_s, nI_1]
    refine ⟨rfl, ?_⟩
    refine RW.rel (W := wtx W (W 0 12 + 1)) (text_up h0 (Or.inr ⟨rfl, ht, ?_⟩) ht (fun c j hn => ?_) FR gI_s ?_ (fun c j hn => ?_) gI_s ?_)
    · refine ⟨W 26, W 0 14, L0, L1, L2, ⟨?_, T1.2.1, fun i hi => ⟨(T1.2.2 i hi).1, ?_⟩⟩, ep, fun i hi => ?_, ?_, ?_, ?_⟩
      · rw [gI_o (by omega), G.1 _ _ (by omega)]; exact T1.1
      · rw [gI_o (by omega), G.1 _ _ (by omega)]; exact (T1.2.2 i hi).2
      · rw [gI_o (by omega)]; exact O1.2.1 i hi
      · rw [gI_o (by omega)]; exact O1.2.2.1
      · rw [gI_o (by omega)]; exact O1.2.2.2.1
      · rw [gI_o (by omega)]; exact O1.2.2.2.2
    · rw [gI_o (by omega)]; exact F1.1 c j (by omega)
    · rw [gI_o (by omega)]; exact S1
    · rw [gI_o (by omega), G.1 _ _ (by omega)]; exact F c j (by omega)
    · rw [gI_o (by omega), G.1 _ _ (by omega)]; exact G6
