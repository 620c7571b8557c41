/-! PURE: the class reads a text -/
theorem op_E {b : By} {n c : Nat} {s : Int32} (e : opE b n c = some s) : tk b n c = 7 ∧ s = -124 := by
  unfold opE at e
  split at e
  · rename_i t
    exact ⟨t, (Option.some.inj e).symm⟩
  · exact absurd e (by simp)
theorem op_B {b : By} {n c : Nat} {s : Int32} (e : opB b n c = some s) : tk b n c = 8 ∧ s = -38 := by
  unfold opB at e
  split at e
  · rename_i t
    exact ⟨t, (Option.some.inj e).symm⟩
  · exact absurd e (by simp)
theorem op_T {b : By} {n c : Nat} {s : Int32} (e : opT b n c = some s) : tk b n c = 42 ∧ s = -42 := by
  unfold opT at e
  split at e
  · rename_i t
    exact ⟨t, (Option.some.inj e).symm⟩
  · exact absurd e (by simp)
theorem op_A {b : By} {n c : Nat} {s : Int32} (e : opA b n c = some s) : (tk b n c = 43 ∧ s = -43) ∨ (tk b n c = 45 ∧ s = -45) := by
  unfold opA at e
  split at e
  · rename_i t
    exact Or.inl ⟨t, (Option.some.inj e).symm⟩
  · split at e
    · rename_i t
      exact Or.inr ⟨t, (Option.some.inj e).symm⟩
    · exact absurd e (by simp)
theorem op_C {b : By} {n c : Nat} {s : Int32} (e : opC b n c = some s) : (tk b n c = 60 ∧ s = -60) ∨ (tk b n c = 61 ∧ s = -61) := by
  unfold opC at e
  split at e
  · rename_i t
    exact Or.inl ⟨t, (Option.some.inj e).symm⟩
  · split at e
    · rename_i t
      exact Or.inr ⟨t, (Option.some.inj e).symm⟩
    · exact absurd e (by simp)
def Opk (b : By) (n : Nat) (op : Nat → Option Int32) : Prop := ∀ c s, op c = some s → ¬ tk b n c = 0 ∧ isBn s
theorem opk_E (b : By) (n : Nat) : Opk b n (opE b n) := fun c s e => by
  obtain ⟨t, rfl⟩ := op_E e
  exact ⟨by omega, by unfold isBn; simp⟩
theorem opk_B (b : By) (n : Nat) : Opk b n (opB b n) := fun c s e => by
  obtain ⟨t, rfl⟩ := op_B e
  exact ⟨by omega, by unfold isBn; simp⟩
theorem opk_T (b : By) (n : Nat) : Opk b n (opT b n) := fun c s e => by
  obtain ⟨t, rfl⟩ := op_T e
  exact ⟨by omega, by unfold isBn; simp⟩
theorem opk_A (b : By) (n : Nat) : Opk b n (opA b n) := fun c s e => by
  rcases op_A e with ⟨t, rfl⟩ | ⟨t, rfl⟩
  · exact ⟨by omega, by unfold isBn; simp⟩
  · exact ⟨by omega, by unfold isBn; simp⟩
theorem opk_C (b : By) (n : Nat) : Opk b n (opC b n) := fun c s e => by
  rcases op_C e with ⟨t, rfl⟩ | ⟨t, rfl⟩
  · exact ⟨by omega, by unfold isBn; simp⟩
  · exact ⟨by omega, by unfold isBn; simp⟩
/-- what is read takes bytes enough -/
def Gdd (n : Nat) (f : Nat → Rs) : Prop := ∀ c c' L, c ≤ n → f c = .ok (c', L) → c < c' ∧ c' ≤ n ∧ c + L.length ≤ c' ∧ ∃ v, Ex L v ∧ 2 * v ≤ c' - c + 1
theorem Gdd_bl {b : By} {n : Nat} {f : Nat → Rs} {op : Nat → Option Int32} (hf : Gdd n f) (hop : Opk b n op) : ∀ fuel c0 c L v c' L', c0 < c → c ≤ n → c0 + L.length ≤ c → Ex L v → 2 * v ≤ c - c0 + 1 → bl op (nx b n) f fuel c L = .ok (c', L') → c0 < c' ∧ c' ≤ n ∧ c0 + L'.length ≤ c' ∧ ∃ v, Ex L' v ∧ 2 * v ≤ c' - c0 + 1 := by
  intro fuel
  induction fuel with
  | zero =>
    intro c0 c L v c' L' h1 h2 h3 h4 h5 e
    rw [bl_0] at e
    obtain ⟨rfl, rfl⟩ := Prod.mk.inj (Except.ok.inj e)
    exact ⟨h1, h2, h3, v, h4, h5⟩
  | succ fuel ih =>
    intro c0 c L v c' L' h1 h2 h3 h4 h5 e
    rw [bl_s] at e
    cases eo : op c with
    | none =>
      simp only [eo] at e
      obtain ⟨rfl, rfl⟩ := Prod.mk.inj (Except.ok.inj e)
      exact ⟨h1, h2, h3, v, h4, h5⟩
    | some s =>
      obtain ⟨t, hs⟩ := hop c s eo
      have hnx := nx_gt h2 t
      cases ef : f (nx b n c) with
      | error p =>
        simp only [eo, ef] at e
        exact absurd e (by simp)
      | ok r =>
        obtain ⟨c1, L1⟩ := r
        simp only [eo, ef] at e
        obtain ⟨g1, g2, g3, v1, g4, g5⟩ := hf _ _ _ hnx.2 ef
        exact ih c0 c1 (L ++ L1 ++ [s]) (v + v1) c' L' (by omega) g2 (by rw [List.length_append, List.length_append, List.length_singleton]; omega) (Ex_b hs h4 g4) (by omega) e
theorem Gdd_bin {b : By} {n : Nat} {f : Nat → Rs} {op : Nat → Option Int32} (hf : Gdd n f) (hop : Opk b n op) : Gdd n (bin op (nx b n) f) := by
  intro c c' L hc e
  cases ef : f c with
  | error p =>
    rw [bin_e ef] at e
    exact absurd e (by simp)
  | ok r =>
    obtain ⟨c1, L1⟩ := r
    rw [bin_o ef] at e
    obtain ⟨g1, g2, g3, v1, g4, g5⟩ := hf _ _ _ hc ef
    exact Gdd_bl hf hop 160 c c1 L1 v1 c' L g1 g2 g3 g4 g5 e
def Gddo (b : By) (n : Nat) (o : Nat → Nat → Rs) : Prop := ∀ sel c c' L, c ≤ n → ¬ tk b n c = 0 → o sel c = .ok (c', L) → nx b n c < c' ∧ c' ≤ n ∧ nx b n c + L.length ≤ c' ∧ ∃ v, Ex L v ∧ 2 * v ≤ c' - nx b n c + 1
theorem Gdd_O {b : By} {n : Nat} {o : Nat → Nat → Rs} (ho : Gddo b n o) : Gdd n (mkO b n o) := by
  intro c c' L hc e
  unfold mkO at e
  by_cases t : tk b n c = 2 ∨ tk b n c = 3
  · rw [if_pos t] at e
    obtain ⟨rfl, rfl⟩ := Prod.mk.inj (Except.ok.inj e)
    have := nx_gt hc (show ¬ tk b n c = 0 by omega)
    exact ⟨this.1, this.2, by rw [List.length_singleton]; omega, 1, Ex_l (lf_ok t), by omega⟩
  · rw [if_neg t] at e
    by_cases t45 : tk b n c = 45
    · have hn := nx_gt hc (show ¬ tk b n c = 0 by omega)
      cases ef : o 5 c with
      | error p =>
        simp only [if_pos t45, ef] at e
        exact absurd e (by simp)
      | ok r =>
        obtain ⟨c1, L1⟩ := r
        simp only [if_pos t45, ef] at e
        obtain ⟨rfl, rfl⟩ := Prod.mk.inj (Except.ok.inj e)
        obtain ⟨g1, g2, g3, v1, g4, g5⟩ := ho _ _ _ _ hc (by omega) ef
        exact ⟨by omega, g2, by rw [List.length_append, List.length_singleton]; omega, v1, Ex_u (Or.inr rfl) g4, by omega⟩
    · rw [if_neg t45] at e
      by_cases t40 : tk b n c = 40
      · have hn := nx_gt hc (show ¬ tk b n c = 0 by omega)
        cases ef : o 0 c with
        | error p =>
          simp only [if_pos t40, ef] at e
          exact absurd e (by simp)
        | ok r =>
          obtain ⟨c1, L1⟩ := r
          simp only [if_pos t40, ef] at e
          obtain ⟨g1, g2, g3, v1, g4, g5⟩ := ho _ _ _ _ hc (by omega) ef
          by_cases t41 : tk b n c1 = 41
          · rw [if_pos t41] at e
            obtain ⟨rfl, rfl⟩ := Prod.mk.inj (Except.ok.inj e)
            have hn1 := nx_gt g2 (show ¬ tk b n c1 = 0 by omega)
            exact ⟨by omega, hn1.2, by omega, v1, g4, by omega⟩
          · rw [if_neg t41] at e
            exact absurd e (by simp)
      · rw [if_neg t40] at e
        exact absurd e (by simp)
theorem Gdd_T {b : By} {n : Nat} {o : Nat → Nat → Rs} (ho : Gddo b n o) : Gdd n (mkT b n o) := Gdd_bin (Gdd_O ho) (opk_T b n)
theorem Gdd_A {b : By} {n : Nat} {o : Nat → Nat → Rs} (ho : Gddo b n o) : Gdd n (mkA b n o) := Gdd_bin (Gdd_T ho) (opk_A b n)
theorem Gdd_C {b : By} {n : Nat} {o : Nat → Nat → Rs} (ho : Gddo b n o) : Gdd n (mkC b n o) := by
  intro c c' L hc e
  have hA := Gdd_A ho
  unfold mkC at e
  cases e1 : mkA b n o c with
  | error p =>
    simp only [e1] at e
    exact absurd e (by simp)
  | ok r =>
    obtain ⟨c1, L1⟩ := r
    simp only [e1] at e
    obtain ⟨g1, g2, g3, v1, g4, g5⟩ := hA _ _ _ hc e1
    cases eo : opC b n c1 with
    | none =>
      simp only [eo] at e
      obtain ⟨rfl, rfl⟩ := Prod.mk.inj (Except.ok.inj e)
      exact ⟨g1, g2, g3, v1, g4, g5⟩
    | some s =>
      obtain ⟨t, hs⟩ := opk_C b n c1 s eo
      have hnx := nx_gt g2 t
      cases e2 : mkA b n o (nx b n c1) with
      | error p =>
        simp only [eo, e2] at e
        exact absurd e (by simp)
      | ok r =>
        obtain ⟨c2, L2⟩ := r
        simp only [eo, e2] at e
        obtain ⟨rfl, rfl⟩ := Prod.mk.inj (Except.ok.inj e)
        obtain ⟨k1, k2, k3, v2, k4, k5⟩ := hA _ _ _ hnx.2 e2
        exact ⟨by omega, k2, by rw [List.length_append, List.length_append, List.length_singleton]; omega, v1 + v2, Ex_b hs g4 k4, by omega⟩
theorem Gdd_N {b : By} {n : Nat} {o : Nat → Nat → Rs} (ho : Gddo b n o) : Gdd n (mkN b n o) := by
  intro c c' L hc e
  unfold mkN at e
  by_cases t : tk b n c = 9
  · have hn := nx_gt hc (show ¬ tk b n c = 0 by omega)
    cases ef : o 2 c with
    | error p =>
      simp only [if_pos t, ef] at e
      exact absurd e (by simp)
    | ok r =>
      obtain ⟨c1, L1⟩ := r
      simp only [if_pos t, ef] at e
      obtain ⟨rfl, rfl⟩ := Prod.mk.inj (Except.ok.inj e)
      obtain ⟨g1, g2, g3, v1, g4, g5⟩ := ho _ _ _ _ hc (by omega) ef
      exact ⟨by omega, g2, by rw [List.length_append, List.length_singleton]; omega, v1, Ex_u (Or.inl rfl) g4, by omega⟩
  · rw [if_neg t] at e
    exact Gdd_C ho c c' L hc e
theorem Gdd_B {b : By} {n : Nat} {o : Nat → Nat → Rs} (ho : Gddo b n o) : Gdd n (mkB b n o) := Gdd_bin (Gdd_N ho) (opk_B b n)
theorem Gdd_E {b : By} {n : Nat} {o : Nat → Nat → Rs} (ho : Gddo b n o) : Gdd n (mkE b n o) := Gdd_bin (Gdd_B ho) (opk_E b n)
theorem Gdd_opn {b : By} {n : Nat} : ∀ r, Gddo b n (opn b n r) := by
  intro r
  induction r with
  | zero =>
    intro sel c c' L hc t e
    rw [opn_0] at e
    exact absurd e (by simp)
  | succ r ih =>
    intro sel c c' L hc t e
    have hn := nx_gt hc t
    rw [opn_s] at e
    split at e
    · exact Gdd_E ih _ _ _ hn.2 e
    · split at e
      · exact Gdd_N ih _ _ _ hn.2 e
      · exact Gdd_O ih _ _ _ hn.2 e
theorem Gdd_pt {b : By} {n key : Nat} (hk : 1 ≤ key) : Gdd n (pPt b n key) := by
  intro c c' L hc e
  unfold pPt at e
  by_cases t : tk b n c = key
  · have hn := nx_gt hc (show ¬ tk b n c = 0 by omega)
    cases ef : mkE b n (opn b n 5) (nx b n c) with
    | error p =>
      simp only [if_pos t, ef] at e
      exact absurd e (by simp)
    | ok r =>
      obtain ⟨c1, L1⟩ := r
      simp only [if_pos t, ef] at e
      obtain ⟨g1, g2, g3, v1, g4, g5⟩ := Gdd_E (Gdd_opn 5) _ _ _ hn.2 ef
      by_cases t59 : tk b n c1 = 59
      · rw [if_pos t59] at e
        obtain ⟨rfl, rfl⟩ := Prod.mk.inj (Except.ok.inj e)
        have hn1 := nx_gt g2 (show ¬ tk b n c1 = 0 by omega)
        exact ⟨by omega, hn1.2, by omega, v1, g4, by omega⟩
      · rw [if_neg t59] at e
        exact absurd e (by simp)
  · rw [if_neg t] at e
    exact absurd e (by simp)
/-- a text that stands: its steps -/
theorem pAll_ok {b : By} {n : Nat} (hn : n ≤ 160) {L0 L1 L2 : List Int32} (e : pAll b n = .ok (L0, L1, L2)) : (L0 ++ L1 ++ L2).length ≤ 160 ∧ (∃ v, Ex L0 v ∧ v ≤ 80) ∧ (∃ v, Ex L1 v ∧ v ≤ 80) ∧ ∃ v, Ex L2 v ∧ v ≤ 80 := by
  unfold pAll at e
  cases p0 : pPt b n 4 0 with
  | error p =>
    simp only [p0] at e
    exact absurd e (by simp)
  | ok r0 =>
    obtain ⟨c1, M0⟩ := r0
    simp only [p0] at e
    obtain ⟨g1, g2, g3, v1, g4, g5⟩ := Gdd_pt (by decide) _ _ _ (Nat.zero_le _) p0
    cases p1 : pPt b n 5 c1 with
    | error p =>
      simp only [p1] at e
      exact absurd e (by simp)
    | ok r1 =>
      obtain ⟨c2, M1⟩ := r1
      simp only [p1] at e
      obtain ⟨k1, k2, k3, v2, k4, k5⟩ := Gdd_pt (by decide) _ _ _ g2 p1
      cases p2 : pPt b n 6 c2 with
      | error p =>
        simp only [p2] at e
        exact absurd e (by simp)
      | ok r2 =>
        obtain ⟨c3, M2⟩ := r2
        simp only [p2] at e
        obtain ⟨l1, l2, l3, v3, l4, l5⟩ := Gdd_pt (by decide) _ _ _ k2 p2
        split at e
        · obtain ⟨rfl, e'⟩ := Prod.mk.inj (Except.ok.inj e)
          obtain ⟨rfl, rfl⟩ := Prod.mk.inj e'
          refine ⟨by rw [List.length_append, List.length_append]; omega, ⟨v1, g4, by omega⟩, ⟨v2, k4, by omega⟩, ⟨v3, l4, by omega⟩⟩
        · exact absurd e (by simp)
-- steps in the store
theorem gd_l {L M : List Int32} {i : Nat} {d : Int32} (h : i < L.length) : (L ++ M).getD i d = L.getD i d := by
  rw [List.getD_eq_getElem?_getD, List.getD_eq_getElem?_getD, List.getElem?_append_left h]
theorem gd_r {L M : List Int32} {i : Nat} {d : Int32} : (L ++ M).getD (L.length + i) d = M.getD i d := by
  rw [List.getD_eq_getElem?_getD, List.getD_eq_getElem?_getD, List.getElem?_append_right (Nat.le_add_right _ _), Nat.add_sub_cancel_left]
def SL (T k : Nat) (L : List Int32) (τ : St) : Prop := ∀ i, i < L.length → gI τ (T + 1) (k + i) = L.getD i 0
theorem SL.app {T k : Nat} {L M : List Int32} {τ : St} (h : SL T k L τ) (g : SL T (k + L.length) M τ) : SL T k (L ++ M) τ := by
  intro i hi
  rcases Nat.lt_or_ge i L.length with y | y
  · rw [gd_l y]
    exact h i y
  · obtain ⟨j, rfl⟩ : ∃ j, i = L.length + j := ⟨i - L.length, by omega⟩
    rw [gd_r, ← Nat.add_assoc]
    refine g j ?_
    rw [List.length_append] at hi
    omega
def XFt (T k : Nat) (ρ τ : St) : Prop := (∀ c j, ¬ ((c = 2 ∧ 2 ≤ j ∧ j ≤ 5) ∨ (c = T ∧ j = 1) ∨ (c = T + 1 ∧ k ≤ j)) → gI τ c j = gI ρ c j) ∧ (∀ c j, gJ τ c j = gJ ρ c j) ∧ ∀ c j, gR τ c j = gR ρ c j
theorem XFt.rf (T k : Nat) (ρ : St) : XFt T k ρ ρ := ⟨fun _ _ _ => rfl, fun _ _ => rfl, fun _ _ => rfl⟩
theorem XFt.tr {T k k' : Nat} (hk : k ≤ k') {ρ τ υ : St} (h : XFt T k ρ τ) (g : XFt T k' τ υ) : XFt T k ρ υ := ⟨fun c j n => (g.1 c j (by omega)).trans (h.1 c j n), fun c j => (g.2.1 c j).trans (h.2.1 c j), fun c j => (g.2.2 c j).trans (h.2.2 c j)⟩
theorem XF.t {T k : Nat} {ρ τ : St} (h : XF ρ τ) : XFt T k ρ τ := ⟨fun c j n => h.1 c j (by omega), h.2.1, h.2.2⟩
theorem SL.f {T k k' : Nat} {L : List Int32} {ρ τ : St} (h : SL T k L ρ) (hT : 20 ≤ T) (f : XFt T k' ρ τ) (hk : k + L.length ≤ k') : SL T k L τ := by
  intro i hi
  rw [f.1 _ _ (by omega)]
  exact h i hi
/-- good state of the class at c, k steps so far in the text at T -/
def GX (b : By) (n T c k : Nat) (τ : St) : Prop := TBx b n τ ∧ XS b n c τ ∧ gR τ 2 6 = some T ∧ gI τ T 1 = nI k
def OutX (b : By) (n T k : Nat) (ρ : St) (res : Rs) (v : Int32) (τ : St) : Prop := XFt T k ρ τ ∧ match res with
  | .error p => v = 0 ∧ gI τ 2 4 = nI p ∧ ∃ j, k ≤ j ∧ j ≤ 160 ∧ gI τ T 1 = nI j
  | .ok (c', L) => v = 1 ∧ GX b n T c' (k + L.length) τ ∧ SL T k L τ
/-- one step more, if there is room -/
def pushed (T : Nat) (s : Int32) (τ : St) : Nat → St := fun j => if j < 160 then uI (uI τ (T + 1) j s) T 1 (nI (j + 1)) else τ
theorem sX_add {T j : Nat} {ids : List Nat} {τ : St} (hT : okT ids T) (hj : j ≤ 160) (h1 : gI τ T 1 = nI j) (s : Int32) {post : St → Prop} (h : post (pushed T s τ j)) : wX9_add ids T s τ post := by
  unfold pushed at h
  unfold wX9_add
  have e160 : (Int32.ofNat 160 ≤ gI τ T 1) ↔ 160 ≤ j := by
    rw [h1]
    exact nI_leI (a := 160) (by omega) (by omega)
  rw [e160, h1, nI_clamp (by omega)]
  refine ⟨fun g => ?_, fun g => ⟨vin (by omega) (by omega), ?_⟩⟩
  · rw [if_neg (by omega)] at h
    exact h
  · rw [if_pos (by omega)] at h
    rintro _ rfl _ rfl
    rw [gI_o (by omega), h1, nI_1]
    exact h
theorem pushed_f {T k j : Nat} {s : Int32} {τ : St} (hk : k ≤ j) : XFt T k τ (pushed T s τ j) := by
  unfold pushed
  split
  · refine ⟨fun c i hn => ?_, fun _ _ => rfl, fun _ _ => rfl⟩
    rw [gI_o (by omega), gI_o (by omega)]
  · exact XFt.rf T k τ
theorem pushed_4 {T j : Nat} {s : Int32} {τ : St} (hT : 20 ≤ T) : gI (pushed T s τ j) 2 4 = gI τ 2 4 := by
  unfold pushed
  split
  · rw [gI_o (by omega), gI_o (by omega)]
  · rfl
theorem pushed_1 {T j : Nat} {s : Int32} {τ : St} (hj : j ≤ 160) (h1 : gI τ T 1 = nI j) : ∃ i, j ≤ i ∧ i ≤ 160 ∧ gI (pushed T s τ j) T 1 = nI i := by
  unfold pushed
  split
  · exact ⟨j + 1, by omega, by omega, gI_s⟩
  · exact ⟨j, by omega, hj, h1⟩
theorem GX.push {b : By} {n T c j : Nat} {s : Int32} {τ : St} (hT : 20 ≤ T) (hj : j < 160) (h : GX b n T c j τ) : GX b n T c (j + 1) (pushed T s τ j) ∧ gI (pushed T s τ j) (T + 1) j = s := by
  obtain ⟨⟨a1, a2, a3⟩, a4, a5, a6⟩ := h
  unfold pushed
  rw [if_pos hj]
  refine ⟨⟨⟨a1, ?_, fun i hi => ⟨(a3 i hi).1, ?_⟩⟩, ?_, a5, gI_s⟩, ?_⟩
  · rw [gI_o (by omega), gI_o (by omega)]; exact a2
  · by_cases g : 13 = T ∨ 13 = T + 1
    · omega
    · rw [gI_o (by omega), gI_o (by omega)]; exact (a3 i hi).2
  · unfold XS
    rw [gI_o (by omega), gI_o (by omega), gI_o (by omega), gI_o (by omega), gI_o (by omega), gI_o (by omega), gI_o (by omega), gI_o (by omega)]
    exact a4
  · rw [gI_o (by omega), gI_s]
