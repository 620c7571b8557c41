/-! PURE: the reference reads a text, to the end -/
theorem sR_fail_b {τ : St} (h43 : gI τ 0 43 = 1) {post : St → Prop} (h : post τ) : wX12_fail τ post := by
  unfold wX12_fail
  rw [h43]
  exact dm (by decide) h
theorem GS.dec {b : By} {n x o c : Nat} {nm : Nat → Int32} {τ : St} (h : GS b n x (o + 1) c nm τ) : GS b n x o c nm (uI τ 0 42 (gI τ 0 42 - 1)) := by
  obtain ⟨g1, g2, g3, g4, g5⟩ := h
  have e : gI τ 0 42 - 1 = nI o := by rw [g4, nI_pred]
  rw [e]
  have fu : RF τ (uI τ 0 42 (nI o)) := (RF.rf τ).uI (by omega)
  refine ⟨g1.f fu, ?_, by rw [gI_o (by omega)]; exact g3, gI_s, fun i hi => by rw [gI_o (by omega)]; exact g5 i hi⟩
  unfold RSt
  rw [gI_o (by omega), gI_o (by omega), gI_o (by omega), gJ_uI]
  exact g2
theorem BS.dec {p o : Nat} {τ : St} (h : BS p (o + 1) τ) : BS p o (uI τ 0 42 (gI τ 0 42 - 1)) := by
  obtain ⟨g1, g2, g3⟩ := h
  have e : gI τ 0 42 - 1 = nI o := by rw [g3, nI_pred]
  rw [e]
  exact ⟨by rw [gI_o (by omega)]; exact g1, by rw [gI_o (by omega)]; exact g2, gI_s⟩
theorem dvl_lt {b : By} {p : Nat} : ∀ l, (∀ i, i < l → b (p + i) ≤ 57) → dvl b p l < 10 ^ l := by
  intro l
  induction l with
  | zero => intro _; exact Nat.one_pos
  | succ l ih =>
    intro h
    have h1 := ih (fun i hi => h i (by omega))
    have h2 := h l (by omega)
    rw [dvl_s, Nat.pow_succ]
    omega
theorem nvl_lt {b : By} {n c : Nat} (h : tk b n c = 2) : nvl b n c ≤ 9999 := by
  have hw := wtk_r (wv b n c)
  unfold tk at h
  split at h
  · exact absurd h (by decide)
  · split at h
    · split at h
      · rename_i g
        unfold nvl
        have e := E_in (fun i => isD (b i)) n (pc b n c)
        have := dvl_lt (b := b) (p := pc b n c) (eD b n c - pc b n c) (fun i hi => by
          have := (e (pc b n c + i) (by omega) (by unfold eD at hi; omega)).2
          unfold isD at this
          simp at this
          omega)
        have : (10 : Nat) ^ (eD b n c - pc b n c) ≤ 10 ^ 4 := Nat.pow_le_pow_right (by decide) g
        omega
      · exact absurd h (by decide)
    · split at h
      · omega
      · split at h
        · rename_i s
          have := isS_r s
          omega
        · exact absurd h (by decide)
theorem wnm_lt (v : Nat) : wnm v < 6 := by
  unfold wnm
  repeat (first | decide | split)
theorem nm_st : ∀ k, k < 6 → (¬ (0 : Int32) ≤ -1 - nI k) ∧ (-1 - nI k < 0 ∧ -6 ≤ -1 - nI k) ∧ (-1 - (-1 - nI k)).toNatClampNeg = k := by
  intro k hk
  have : k = 0 ∨ k = 1 ∨ k = 2 ∨ k = 3 ∨ k = 4 ∨ k = 5 := by omega
  rcases this with rfl | rfl | rfl | rfl | rfl | rfl <;> decide
theorem lf_ok {b : By} {n c : Nat} (h : tk b n c = 2 ∨ tk b n c = 3) : isLf (lf b n c) := by
  unfold lf
  by_cases t : tk b n c = 2
  · rw [if_pos t]
    have := nvl_lt t
    refine Or.inl ⟨?_, ?_⟩
    · rw [fb_le, fb_nI (by omega)]
      exact Int.natCast_nonneg _
    · rw [fb_le, fb_nI (by omega)]
      have : (9999 : Int32).toInt = 9999 := by decide
      omega
  · rw [if_neg t]
    exact Or.inr (nm_st _ (wnm_lt _)).2.1
theorem lf_2 {b : By} {n c : Nat} (nm : Nat → Int32) (t : tk b n c = 2) : val nm [lf b n c] = nI (nvl b n c) := by
  have := nvl_lt t
  rw [val_l nm (lf_ok (Or.inl t))]
  unfold lf lv
  rw [if_pos t, if_pos (by rw [fb_le, fb_nI (by omega)]; exact Int.natCast_nonneg _)]
theorem lf_3 {b : By} {n c : Nat} (nm : Nat → Int32) (t : tk b n c = 3) : val nm [lf b n c] = nm (wnm (wv b n c)) := by
  rw [val_l nm (lf_ok (Or.inr t))]
  unfold lf lv
  obtain ⟨h1, -, h2⟩ := nm_st _ (wnm_lt (wv b n c))
  have t' : ¬ tk b n c = 2 := by omega
  rw [if_neg t', if_neg h1, h2]
theorem sR_name {b : By} {n c : Nat} {τ : St} (hS : RSt b n c τ) (h43 : gI τ 0 43 = 0) {post : Int32 → St → Prop} (h : tk b n c = 3 → post (gI τ 0 (45 + wnm (wv b n c))) τ) (hf : ¬ tk b n c = 3 → wX12_fail τ (fun υ => post 0 υ)) : wX12_name τ post := by
  have k3 := (tk_keys (b := b) (n := n) (c := c)).2.2.2.2.2.2
  have e : ∀ v k, wv b n c = v → (v = 223456 ∨ v = 11055682 ∨ v = 465874 ∨ v = 247162 ∨ v = 381245 ∨ v = 4562587) → wnm v = k → post (gI τ 0 (45 + k)) τ := by
    intro v k hv hc hk
    have := h (k3.mpr (by rw [hv]; exact hc))
    rw [hv, hk] at this
    exact this
  unfold wX12_name
  refine sR_isWord (w := 223456) hS h43 (by decide) (by decide) (bI_d (fun c1 => ?_) (fun c1 => e _ 0 (of_decide_eq_true c1) (by decide) (by decide)))
  refine sR_isWord (w := 11055682) hS h43 (by decide) (by decide) (bI_d (fun c2 => ?_) (fun c1 => e _ 1 (of_decide_eq_true c1) (by decide) (by decide)))
  refine sR_isWord (w := 465874) hS h43 (by decide) (by decide) (bI_d (fun c3 => ?_) (fun c1 => e _ 2 (of_decide_eq_true c1) (by decide) (by decide)))
  refine sR_isWord (w := 247162) hS h43 (by decide) (by decide) (bI_d (fun c4 => ?_) (fun c1 => e _ 3 (of_decide_eq_true c1) (by decide) (by decide)))
  refine sR_isWord (w := 381245) hS h43 (by decide) (by decide) (bI_d (fun c5 => ?_) (fun c1 => e _ 4 (of_decide_eq_true c1) (by decide) (by decide)))
  refine sR_isWord (w := 4562587) hS h43 (by decide) (by decide) (bI_d (fun c6 => ?_) (fun c1 => e _ 5 (of_decide_eq_true c1) (by decide) (by decide)))
  refine hf (fun t => ?_)
  have d1 := of_decide_eq_false c1
  have d2 := of_decide_eq_false c2
  have d3 := of_decide_eq_false c3
  have d4 := of_decide_eq_false c4
  have d5 := of_decide_eq_false c5
  have d6 := of_decide_eq_false c6
  have := k3.mp t
  omega
theorem RSt.t2 {b : By} {n c : Nat} {τ : St} (h : RSt b n c τ) (t : tk b n c = 2) : gI τ 0 38 = 2 ∧ gJ τ 0 40 = lN (nvl b n c) := by
  have wl := wtk_r (wv b n c)
  rcases h.2 with ⟨t', -⟩ | ⟨-, e, e2, -⟩ | ⟨t', -⟩ | ⟨s, -⟩ | ⟨t', -⟩
  · omega
  · exact ⟨e, e2⟩
  · omega
  · have := isS_r s
    omega
  · omega
theorem RSt.t3 {b : By} {n c : Nat} {τ : St} (h : RSt b n c τ) (t : tk b n c = 3) : gI τ 0 38 = 1 := by
  rcases h.2 with ⟨t', -⟩ | ⟨t', -⟩ | ⟨-, e, -⟩ | ⟨s, -⟩ | ⟨t', -⟩
  · omega
  · omega
  · exact e
  · have := isS_r s
    omega
  · omega
theorem RSt.t0 {b : By} {n c : Nat} {τ : St} (h : RSt b n c τ) : gI τ 0 38 = 0 ↔ tk b n c = 0 := by
  have wl := wtk_r (wv b n c)
  rcases h.2 with ⟨t', e, -⟩ | ⟨t', e, -⟩ | ⟨t', e, -⟩ | ⟨s, e, -⟩ | ⟨t', e, -⟩
  · rw [e]; exact ⟨fun _ => t', fun _ => rfl⟩
  · rw [e]; exact ⟨fun z => absurd z (by decide), fun z => by omega⟩
  · rw [e]; exact ⟨fun z => absurd z (by decide), fun z => by omega⟩
  · have := isS_r s
    rw [e]; exact ⟨fun z => absurd z (by decide), fun z => by omega⟩
  · rw [e]; exact ⟨fun z => absurd z (by decide), fun z => by omega⟩
theorem RSt.n2 {b : By} {n c : Nat} {τ : St} (h : RSt b n c τ) (t : ¬ tk b n c = 2) : ¬ gI τ 0 38 = 2 := by
  rcases h.2 with ⟨t', e, -⟩ | ⟨t', e, -⟩ | ⟨t', e, -⟩ | ⟨s, e, -⟩ | ⟨t', e, -⟩
  · rw [e]; decide
  · exact absurd t' t
  · rw [e]; decide
  · rw [e]; decide
  · rw [e]; decide
theorem row_one {b : By} {n x o r : Nat} {nm : Nat → Int32} (hr : o + r = 5) {d : Nat} (h5 : 1 ≤ r → Rok b n x (o + 1) nm d 5 (mkO b n (opn b n (r - 1)))) (h0 : 1 ≤ r → Rok b n x (o + 1) nm d 0 (mkE b n (opn b n (r - 1)))) : Rok b n x o nm (d + 1) 5 (mkO b n (opn b n r)) := by
  intro c ρ post hc hG h
  rw [wgR_5]
  unfold wX12_one
  refine sR_isSign (s := 45) hG.2.1 hG.2.2.1 rfl ?_
  by_cases t45 : tk b n c = 45
  · rw [decide_eq_true t45]
    unfold mkO at h
    rw [if_neg (by omega), if_pos t45] at h
    refine df (by decide) (sR_opens (by omega) hc hG (by omega) (by omega) (fun o5 υ f1 hb => ?_) (fun o5 υ f1 g1 => ?_))
    · have r0 : r = 0 := by omega
      subst r0
      rw [opn_0] at h
      exact dt rfl (h 0 υ ⟨f1, hb⟩)
    · obtain ⟨r', rfl⟩ : ∃ q, r = q + 1 := ⟨r - 1, by omega⟩
      rw [opn_s, if_neg (by decide), if_neg (by decide)] at h
      refine df (by decide) (h5 (by omega) _ υ _ (nx_gt hc (by omega)).2 g1 (fun w υ2 ho2 => ?_))
      rintro v1025 rfl s17 rfl
      rw [Nat.add_sub_cancel] at ho2
      have fu : RF υ2 (uI υ2 0 42 (gI υ2 0 42 - 1)) := (RF.rf υ2).uI (by omega)
      cases ef : mkO b n (opn b n r') (nx b n c) with
      | error p =>
        rw [ef] at ho2 h
        exact h _ _ ⟨(f1.tr ho2.1).tr fu, ho2.2.dec⟩
      | ok r2 =>
        obtain ⟨c', L⟩ := r2
        rw [ef] at ho2 h
        obtain ⟨f2, q1, q2, g2, ⟨k', q4⟩, q5⟩ := ho2
        have hn0 := nx_gt hc (show ¬ tk b n c = 0 by omega)
        refine h _ _ ⟨(f1.tr f2).tr fu, by omega, q2, g2.dec, ⟨k', Ex_u (Or.inr rfl) q4⟩, ?_⟩
        rw [val_u nm (Or.inr rfl) q4, q5]
        unfold un
        rw [if_neg (by decide)]
  rw [decide_eq_false t45]
  refine dt rfl (sR_isSign (s := 40) hG.2.1 hG.2.2.1 rfl ?_)
  by_cases t40 : tk b n c = 40
  · rw [decide_eq_true t40]
    unfold mkO at h
    rw [if_neg (by omega), if_neg t45, if_pos t40] at h
    refine df (by decide) (sR_opens (by omega) hc hG (by omega) (by omega) (fun o5 υ f1 hb => ?_) (fun o5 υ f1 g1 => ?_))
    · have r0 : r = 0 := by omega
      subst r0
      rw [opn_0] at h
      exact dt rfl (h 0 υ ⟨f1, hb⟩)
    · obtain ⟨r', rfl⟩ : ∃ q, r = q + 1 := ⟨r - 1, by omega⟩
      rw [opn_s, if_pos rfl] at h
      refine df (by decide) (h0 (by omega) _ υ _ (nx_gt hc (by omega)).2 g1 (fun w υ2 ho2 => ?_))
      rw [Nat.add_sub_cancel] at ho2
      cases ef : mkE b n (opn b n r') (nx b n c) with
      | error p =>
        rw [ef] at ho2 h
        refine sR_isSign_b ho2.2.1 _ (dn rfl (sR_fail_b ho2.2.1 ?_))
        rintro s8 rfl
        have fu : RF υ2 (uI υ2 0 42 (gI υ2 0 42 - 1)) := (RF.rf υ2).uI (by omega)
        have hb' := ho2.2.dec
        rw [hb'.1]
        exact dm (by decide) (h _ _ ⟨(f1.tr ho2.1).tr fu, hb'⟩)
      | ok r2 =>
        obtain ⟨c', L⟩ := r2
        rw [ef] at ho2 h
        obtain ⟨f2, q1, q2, g2, ⟨k', q4⟩, q5⟩ := ho2
        have hn0 := nx_gt hc (show ¬ tk b n c = 0 by omega)
        refine sR_isSign (s := 41) g2.2.1 g2.2.2.1 rfl ?_
        by_cases t41 : tk b n c' = 41
        · rw [decide_eq_true t41]
          simp only [if_pos t41] at h
          refine dm (by decide) ?_
          rintro s8 rfl
          have fu : RF υ2 (uI υ2 0 42 (gI υ2 0 42 - 1)) := (RF.rf υ2).uI (by omega)
          have g3 := g2.dec
          rw [g3.2.2.1]
          have hn1 := nx_gt q2 (show ¬ tk b n c' = 0 by omega)
          refine dn rfl (sR_nx q2 g3 (by omega) (by omega) (fun υ3 f3 g4 => ?_))
          exact h w υ3 ⟨((f1.tr f2).tr fu).tr f3, by omega, hn1.2, g4, ⟨k', q4⟩, q5⟩
        · rw [decide_eq_false t41]
          simp only [if_neg t41] at h
          refine dn rfl (sR_fail g2.2.2.1 g2.2.1.1 (fun υ3 f3 e42 e43 e44 => ?_))
          rintro s8 rfl
          have fu : RF υ3 (uI υ3 0 42 (gI υ3 0 42 - 1)) := (RF.rf υ3).uI (by omega)
          have hb : BS (pc b n c') (o + 1) υ3 := ⟨e43, e44, e42.trans g2.2.2.2.1⟩
          have hb' := hb.dec
          rw [hb'.1]
          exact dm (by decide) (h w _ ⟨((f1.tr f2).tr f3).tr fu, hb'⟩)
  rw [decide_eq_false t40]
  refine dt rfl ?_
  rw [hG.2.2.1]
  refine dn rfl ?_
  by_cases t2 : tk b n c = 2
  · obtain ⟨e38, e40⟩ := hG.2.1.t2 t2
    have hl := nvl_lt t2
    unfold mkO at h
    rw [if_pos (Or.inl t2)] at h
    rw [e38, e40]
    refine dn rfl ?_
    rintro v9 rfl
    refine sR_nx hc hG (by omega) (by omega) (fun υ f1 g1 => ?_)
    have hn0 := nx_gt hc (show ¬ tk b n c = 0 by omega)
    refine h _ υ ⟨f1, by omega, hn0.2, g1, ⟨1, Ex_l (lf_ok (Or.inl t2))⟩, ?_⟩
    rw [lf_2 nm t2, ← nI_l (by omega), lg_l2i_i2l]
  refine dm (hG.2.1.n2 t2) ?_
  unfold wX12_one_123
  rw [hG.2.2.1]
  refine dn rfl ?_
  have bad : ¬ tk b n c = 3 → ∀ post', (∀ υ, RF ρ υ → BS (pc b n c) o υ → post' υ) → wX12_fail ρ post' := fun _ post' hp => sR_fail hG.2.2.1 hG.2.1.1 (fun υ f e42 e43 e44 => hp υ f ⟨e43, e44, e42.trans hG.2.2.2.1⟩)
  by_cases t3 : tk b n c = 3
  · unfold mkO at h
    rw [if_pos (Or.inr t3)] at h
    refine dn (hG.2.1.t3 t3) (sR_name hG.2.1 hG.2.2.1 (fun _ => ?_) (fun z => absurd t3 z))
    rw [hG.2.2.1]
    refine dn rfl (sR_nx hc hG (by omega) (by omega) (fun υ f1 g1 => ?_))
    have hn0 := nx_gt hc (show ¬ tk b n c = 0 by omega)
    refine h _ υ ⟨f1, by omega, hn0.2, g1, ⟨1, Ex_l (lf_ok (Or.inr t3))⟩, ?_⟩
    rw [lf_3 nm t3]
    exact hG.2.2.2.2 _ (wnm_lt _)
  · unfold mkO at h
    rw [if_neg (by omega), if_neg t45, if_neg t40] at h
    refine ⟨fun _ => bad t3 _ (fun υ f hb => h 0 υ ⟨f, hb⟩), fun _ => sR_name hG.2.1 hG.2.2.1 (fun z => absurd z t3) (fun _ => bad t3 _ (fun υ f hb => ?_))⟩
    rw [hb.1]
    exact dm (by decide) (h 0 υ ⟨f, hb⟩)
theorem rows {b : By} {n x : Nat} {nm : Nat → Int32} (hn : n ≤ 160) : ∀ r o D, o + r = 5 → Rok b n x o nm (D + 6 * r + 1) 5 (mkO b n (opn b n r)) ∧ Rok b n x o nm (D + 6 * r + 4) 2 (mkN b n (opn b n r)) ∧ Rok b n x o nm (D + 6 * r + 6) 0 (mkE b n (opn b n r)) := by
  intro r
  induction r with
  | zero =>
    intro o D ho
    have r1 : Rok b n x o nm (D + 6 * 0 + 1) 5 (mkO b n (opn b n 0)) := row_one ho (fun z => absurd z (by decide)) (fun z => absurd z (by decide))
    have r2 := row_term hn r1
    have r3 := row_added hn r2
    have r4 : Rok b n x o nm (D + 6 * 0 + 4) 2 (mkN b n (opn b n 0)) := row_not ho r3 (fun z => absurd z (by decide))
    have r5 := row_both hn r4
    have r6 := row_either hn r5
    exact ⟨r1, r4, r6⟩
  | succ r ih =>
    intro o D ho
    have i1 := (ih (o + 1) (D + 5) (by omega)).1
    have i2 := (ih (o + 1) (D + 5) (by omega)).2.1
    have i3 := (ih (o + 1) D (by omega)).2.2
    have e1 : D + 5 + 6 * r + 1 = D + 6 * (r + 1) := by omega
    have e2 : D + 5 + 6 * r + 4 = D + 6 * (r + 1) + 3 := by omega
    have e3 : D + 6 * r + 6 = D + 6 * (r + 1) := by omega
    rw [e1] at i1
    rw [e2] at i2
    rw [e3] at i3
    have r1 : Rok b n x o nm (D + 6 * (r + 1) + 1) 5 (mkO b n (opn b n (r + 1))) := row_one ho (fun _ => i1) (fun _ => i3)
    have r2 := row_term hn r1
    have r3 := row_added hn r2
    have r4 : Rok b n x o nm (D + 6 * (r + 1) + 4) 2 (mkN b n (opn b n (r + 1))) := row_not ho r3 (fun _ => i2)
    have r5 := row_both hn r4
    have r6 := row_either hn r5
    exact ⟨r1, r4, r6⟩
theorem sR_part {b : By} {n x c q w : Nat} {nm : Nat → Int32} {ρ : St} (hn : n ≤ 160) (hk : ∀ c, tk b n c = q ↔ wv b n c = w) (hw : 0 < w) (hw2 : w < 2 ^ 63) (hq : 2 ≤ q) (hc : c ≤ n) (hG : GS b n x 0 c nm ρ) {post : Int32 → St → Prop} (h : ∀ v τ, Out b n x 0 c nm ρ (pPt b n q c) v τ → post v τ) : wX12_part (lN w) ρ post := by
  have rE : Rok b n x 0 nm 100 0 (mkE b n (opn b n 5)) := (rows hn 5 0 64 rfl).2.2
  have bad : ∀ υ p, RF ρ υ → BS p 0 υ → pPt b n q c = .error p → ∀ v, wX12_part_38 post v υ := by
    intro υ p f hb e v
    rw [e] at h
    refine sR_isSign_b hb.1 _ (dn rfl (sR_fail_b hb.1 ?_))
    unfold wX12_part_52
    rw [hb.1]
    exact dm (by decide) (h v υ ⟨f, hb⟩)
  unfold wX12_part
  refine sR_isWord hG.2.1 hG.2.2.1 hw hw2 ?_
  by_cases t : tk b n c = q
  · have e1 : ∀ p, mkE b n (opn b n 5) (nx b n c) = .error p → pPt b n q c = .error p := by
      intro p ep
      unfold pPt
      rw [if_pos t, ep]
    have e2 : ∀ c' L, mkE b n (opn b n 5) (nx b n c) = .ok (c', L) → pPt b n q c = if tk b n c' = 59 then .ok (nx b n c', L) else .error (pc b n c') := by
      intro c' L ep
      unfold pPt
      rw [if_pos t, ep]
    rw [decide_eq_true ((hk c).mp t)]
    refine dm (by decide) ?_
    unfold wX12_part_12
    rw [hG.2.2.1]
    have hn0 := nx_gt hc (show ¬ tk b n c = 0 by omega)
    refine dn rfl (sR_nx hc hG (by omega) (by omega) (fun υ f1 g1 => ?_))
    unfold wX12_part_23
    rw [g1.2.2.1]
    refine dt rfl (rE _ υ _ hn0.2 g1 (fun v υ2 ho => ?_))
    cases ef : mkE b n (opn b n 5) (nx b n c) with
    | error p =>
      rw [ef] at ho
      exact bad υ2 p (f1.tr ho.1) ho.2 (e1 p ef) v
    | ok r2 =>
      obtain ⟨c', L⟩ := r2
      rw [ef] at ho
      obtain ⟨f2, q1, q2, g2, ⟨k', q4⟩, q5⟩ := ho
      rw [e2 c' L ef] at h
      unfold wX12_part_38
      refine sR_isSign (s := 59) g2.2.1 g2.2.2.1 rfl ?_
      by_cases t59 : tk b n c' = 59
      · rw [decide_eq_true t59]
        simp only [if_pos t59] at h
        refine dm (by decide) ?_
        unfold wX12_part_52
        rw [g2.2.2.1]
        have hn1 := nx_gt q2 (show ¬ tk b n c' = 0 by omega)
        refine dn rfl (sR_nx q2 g2 (by omega) (by omega) (fun υ3 f3 g3 => ?_))
        exact h v υ3 ⟨(f1.tr f2).tr f3, by omega, hn1.2, g3, ⟨k', q4⟩, q5⟩
      · rw [decide_eq_false t59]
        simp only [if_neg t59] at h
        refine dn rfl (sR_fail g2.2.2.1 g2.2.1.1 (fun υ3 f3 e42 e43 e44 => ?_))
        unfold wX12_part_52
        rw [e43]
        exact dm (by decide) (h v υ3 ⟨(f1.tr f2).tr f3, e43, e44, e42.trans g2.2.2.2.1⟩)
  · rw [decide_eq_false (fun z => t ((hk c).mpr z))]
    have e : pPt b n q c = .error (pc b n c) := by
      unfold pPt
      rw [if_neg t]
    refine dn rfl (sR_fail hG.2.2.1 hG.2.1.1 (fun υ f1 e42 e43 e44 => ?_))
    unfold wX12_part_12
    rw [e43]
    refine dm (by decide) ?_
    unfold wX12_part_23
    rw [e43]
    exact df (by decide) (bad υ _ f1 ⟨e43, e44, e42.trans hG.2.2.2.1⟩ e 0)
/-- what the reference's reading may change -/
def RG (ρ τ : St) : Prop := (∀ c k, ¬ (c = 0 ∧ 36 ≤ k ∧ k ≤ 50) → gI τ c k = gI ρ c k) ∧ ∀ c k, ¬ c = 0 → gJ τ c k = gJ ρ c k
theorem RG.rf (ρ : St) : RG ρ ρ := ⟨fun _ _ _ => rfl, fun _ _ _ => rfl⟩
theorem RG.tr {ρ τ υ : St} (h : RG ρ τ) (g : RG τ υ) : RG ρ υ := ⟨fun c k n => (g.1 c k n).trans (h.1 c k n), fun c k n => (g.2 c k n).trans (h.2 c k n)⟩
theorem RG.f {ρ τ υ : St} (h : RG ρ τ) (g : RF τ υ) : RG ρ υ := ⟨fun c k n => (g.1 c k (by omega)).trans (h.1 c k n), fun c k n => (g.2 c k n).trans (h.2 c k n)⟩
theorem RG.uI {ρ τ : St} (h : RG ρ τ) {k : Nat} {v : Int32} (hk : 36 ≤ k ∧ k ≤ 50) : RG ρ (uI τ 0 k v) := ⟨fun c j n => by rw [gI_o (by omega)]; exact h.1 c j n, h.2⟩
def nm6 (a2 a3 a4 a5 a6 a7 : Int32) (i : Nat) : Int32 := if i = 0 then a2 else if i = 1 then a3 else if i = 2 then a4 else if i = 3 then a5 else if i = 4 then a6 else a7
def OutA (b : By) (n : Nat) (nm : Nat → Int32) (k : Nat) (v : Int32) (τ : St) : Prop := match pAll b n with
  | .error p => gI τ 0 43 = 1 ∧ gI τ 0 44 = nI p
  | .ok (L0, L1, L2) => gI τ 0 43 = 0 ∧ v = val nm (if k = 0 then L0 else if k = 1 then L1 else L2)
theorem sR_read {b : By} {n x : Nat} {ρ : St} (hx : x < 6) (hT : TRt b n ρ x) {k : Nat} (hk : k < 3) {a2 a3 a4 a5 a6 a7 : Int32} {post : Int32 → St → Prop} (h : ∀ v τ, RG ρ τ → OutA b n (nm6 a2 a3 a4 a5 a6 a7) k v τ → post v τ) : wX12_read (nI x) a2 a3 a4 a5 a6 a7 (nI k) ρ post := by
  obtain ⟨hT1, hn, hT2⟩ := hT
  unfold wX12_read
  rintro _ rfl _ rfl _ rfl _ rfl _ rfl _ rfl _ rfl
  refine ⟨vin hx (by omega), ?_⟩
  rw [nI_clamp (by omega)]
  rintro _ rfl _ rfl _ rfl _ rfl
  have e160 : (160 : Int32) * nI x = nI (160 * x) := nI_mul 160 x
  have e2 : ∀ τ, (∀ c k, ¬ c = 0 → gI τ c k = gI ρ c k) → gI τ 2 x = nI n := fun τ z => (z 2 x (by decide)).trans hT1
  rw [e160, e2 _ (fun c k hc => by repeat rw [gI_o (by omega)])]
  have hF : RG ρ (uI (uI (uI (uI (uI (uI (uI (uI (uI (uI (uI ρ 0 45 a2) 0 46 a3) 0 47 a4) 0 48 a5) 0 49 a6) 0 50 a7) 0 36 (nI (160 * x))) 0 37 (nI n)) 0 41 0) 0 42 0) 0 43 0) := (((((((((((RG.rf ρ).uI (by omega)).uI (by omega)).uI (by omega)).uI (by omega)).uI (by omega)).uI (by omega)).uI (by omega)).uI (by omega)).uI (by omega)).uI (by omega)).uI (by omega)
  have hB : TB b n x (uI (uI (uI (uI (uI (uI (uI (uI (uI (uI (uI ρ 0 45 a2) 0 46 a3) 0 47 a4) 0 48 a5) 0 49 a6) 0 50 a7) 0 36 (nI (160 * x))) 0 37 (nI n)) 0 41 0) 0 42 0) 0 43 0) := by
    refine ⟨hx, hn, ?_, ?_, fun i hi => ⟨(hT2 i hi).1, ?_⟩⟩
    · repeat rw [gI_o (by omega)]
      exact gI_s
    · repeat rw [gI_o (by omega)]
      exact gI_s
    · rw [hF.1 _ _ (by omega)]
      exact (hT2 i hi).2
  refine sR_next hB (c := 0) (Nat.zero_le _) ?_ (fun τ f1 e42 e43 e44 hS => ?_)
  · repeat rw [gI_o (by omega)]
    exact gI_s
  have hG : GS b n x 0 0 (nm6 a2 a3 a4 a5 a6 a7) τ := by
    refine ⟨hB.f f1, hS, ?_, ?_, fun i hi => ?_⟩
    · rw [e43]; exact gI_s
    · rw [e42]
      repeat rw [gI_o (by omega)]
      exact gI_s
    · rw [f1.1 _ _ (by omega)]
      have : i = 0 ∨ i = 1 ∨ i = 2 ∨ i = 3 ∨ i = 4 ∨ i = 5 := by omega
      rcases this with rfl | rfl | rfl | rfl | rfl | rfl
      all_goals repeat rw [gI_o (by omega)]
      all_goals exact gI_s
  have F1 := hF.f f1
  have E : OutA b n (nm6 a2 a3 a4 a5 a6 a7) k = fun v τ => match pAll b n with
      | .error p => gI τ 0 43 = 1 ∧ gI τ 0 44 = nI p
      | .ok (L0, L1, L2) => gI τ 0 43 = 0 ∧ v = val (nm6 a2 a3 a4 a5 a6 a7) (if k = 0 then L0 else if k = 1 then L1 else L2) := rfl
  rw [E] at h
  unfold pAll at h
  have any : ∀ (υ : St) (p : Nat), RG ρ υ → BS p 0 υ → (∀ v τ, RG ρ τ → gI τ 0 43 = 1 ∧ gI τ 0 44 = nI p → post v τ) → ∀ x9 x10 x11, wX12_read_139 post (nI k) x9 x10 x11 υ := by
    intro υ p f hb hp x9 x10 x11
    have hp' : ∀ v, post v υ := fun v => hp v υ f ⟨hb.1, hb.2.1⟩
    exact ⟨fun _ => ⟨fun _ => hp' _, fun _ => hp' _⟩, fun _ => hp' _⟩
  refine sR_part (q := 4) (w := 456399) hn (fun c => (tk_keys (b := b) (n := n) (c := c)).1) (by decide) (by decide) (by decide) (Nat.zero_le _) hG (fun v0 τ0 h0 => ?_)
  cases p0 : pPt b n 4 0 with
  | error p =>
    rw [p0] at h0
    simp only [p0] at h
    have F2 := F1.f h0.1
    rw [h0.2.1]
    refine df (by decide) ?_
    unfold wX12_read_99
    rw [h0.2.1]
    refine df (by decide) ?_
    unfold wX12_read_119
    rw [h0.2.1]
    exact dm (by decide) (any τ0 p F2 h0.2 h _ _ _)
  | ok r0 =>
    obtain ⟨c1, L0⟩ := r0
    rw [p0] at h0
    simp only [p0] at h
    obtain ⟨f2, q1, q2, g2, -, q5⟩ := h0
    have F2 := F1.f f2
    rw [g2.2.2.1]
    refine dt rfl (sR_part (q := 5) (w := 262822) hn (fun c => (tk_keys (b := b) (n := n) (c := c)).2.1) (by decide) (by decide) (by decide) q2 g2 (fun v1 τ1 h1 => ?_))
    cases p1 : pPt b n 5 c1 with
    | error p =>
      rw [p1] at h1
      simp only [p1] at h
      have F3 := F2.f h1.1
      unfold wX12_read_99
      rw [h1.2.1]
      refine df (by decide) ?_
      unfold wX12_read_119
      rw [h1.2.1]
      exact dm (by decide) (any τ1 p F3 h1.2 h _ _ _)
    | ok r1 =>
      obtain ⟨c2, L1⟩ := r1
      rw [p1] at h1
      simp only [p1] at h
      obtain ⟨f3, q1', q2', g3, -, q5'⟩ := h1
      have F3 := F2.f f3
      unfold wX12_read_99
      rw [g3.2.2.1]
      refine dt rfl (sR_part (q := 6) (w := 453836) hn (fun c => (tk_keys (b := b) (n := n) (c := c)).2.2.1) (by decide) (by decide) (by decide) q2' g3 (fun v2 τ2 h2 => ?_))
      cases p2 : pPt b n 6 c2 with
      | error p =>
        rw [p2] at h2
        simp only [p2] at h
        have F4 := F3.f h2.1
        unfold wX12_read_119
        rw [h2.2.1]
        exact dm (by decide) (any τ2 p F4 h2.2 h _ _ _)
      | ok r2 =>
        obtain ⟨c3, L2⟩ := r2
        rw [p2] at h2
        simp only [p2] at h
        obtain ⟨f4, q1'', q2'', g4, -, q5''⟩ := h2
        have F4 := F3.f f4
        unfold wX12_read_119
        rw [g4.2.2.1]
        refine dn rfl ?_
        rw [g4.2.1.t0]
        by_cases t0 : tk b n c3 = 0
        · simp only [if_pos t0] at h
          refine dt t0 ?_
          have k3 : k = 0 ∨ k = 1 ∨ k = 2 := by omega
          unfold wX12_read_139
          rcases k3 with rfl | rfl | rfl
          · exact dn rfl (h _ _ F4 ⟨g4.2.2.1, q5⟩)
          · exact dm (by decide) (dn rfl (h _ _ F4 ⟨g4.2.2.1, q5'⟩))
          · exact dm (by decide) (dm (by decide) (h _ _ F4 ⟨g4.2.2.1, q5''⟩))
        · simp only [if_neg t0] at h
          refine df t0 (sR_fail g4.2.2.1 g4.2.1.1 (fun υ f e42 e43 e44 => ?_))
          exact any υ _ (F4.f f) ⟨e43, e44, e42.trans g4.2.2.2.1⟩ h _ _ _
