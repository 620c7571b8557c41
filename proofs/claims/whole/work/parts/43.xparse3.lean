/-! PURE: the class reads a text, to the end -/
theorem rowX_C {b : By} {n T : Nat} {ids : List Nat} {o d : Nat} (hT : okT ids T) (hn : n ≤ 160) {op : Nat → Nat → Rs} (hg : Gdd n (mkA b n op)) (hf : Xok b n T ids o d 4 (mkA b n op)) : Xok b n T ids o (d + 1) 3 (mkC b n op) := by
  have hT20 := hT.2.1
  intro c k ρ post hc hk hG h
  rw [wgX_3]
  refine hf c k ρ _ hc hk hG (fun v τ ho => ?_)
  rintro _ rfl
  cases ef : mkA b n op c with
  | error p =>
    rw [ef] at ho
    have e : mkC b n op c = .error p := by unfold mkC; rw [ef]
    rw [e] at h
    obtain ⟨h1, h2, h3⟩ := ho
    rw [h2]
    exact dt rfl ⟨isB_0, h 0 τ ⟨h1, rfl, h3⟩⟩
  | ok r =>
    obtain ⟨c1, L1⟩ := r
    rw [ef] at ho
    obtain ⟨g1, g2, g3, -⟩ := hg _ _ _ hc ef
    obtain ⟨h1, h2, h3, h4⟩ := ho
    rw [h2]
    have e2 : gI τ 2 3 = (60 : Int32) ↔ tk b n c1 = 60 := h3.2.1.tk 60 (by omega)
    have e3 : gI τ 2 3 = (61 : Int32) ↔ tk b n c1 = 61 := h3.2.1.tk 61 (by omega)
    rw [e2, e3]
    have main : ∀ s, opC b n c1 = some s → wX7_readCompared_27 (wgX ids d) ids post (nI o) (gI τ 2 3) τ := by
      intro s es
      have t0 := (opk_C b n c1 s es).1
      have hnx := nx_gt g2 t0
      have e : mkC b n op c = appR L1 (addS s (mkA b n op (nx b n c1))) := by
        conv => lhs; unfold mkC
        rw [ef]
        simp only [es]
        cases mkA b n op (nx b n c1) with
        | error p => rfl
        | ok r =>
          obtain ⟨c2, L2⟩ := r
          show Except.ok (c2, L1 ++ L2 ++ [s]) = Except.ok (c2, L1 ++ (L2 ++ [s]))
          rw [List.append_assoc]
      rw [e] at h
      have eg : -(gI τ 2 3) = s := by
        rw [h3.2.1.2.2.1]
        rcases op_C es with ⟨t, rfl⟩ | ⟨t, rfl⟩
        · rw [t]; rfl
        · rw [t]; rfl
      unfold wX7_readCompared_27 wX9_addSign
      rw [eg]
      refine sX_nx hT20 g2 h3 t0 (fun υ f1 g1 => hf _ _ υ _ hnx.2 (by omega) g1 (fun w υ2 ho2 => ?_))
      have ho3 : OutX b n T (k + L1.length) τ (mkA b n op (nx b n c1)) w υ2 := ⟨(f1.t (T := T) (k := k + L1.length)).tr (Nat.le_refl _) ho2.1, ho2.2⟩
      refine ho3.push hT hn s hg hnx.2 (by omega) h3.2.2.1 (fun υ' h5 => ?_)
      exact ⟨h5.b, h w υ' (h5.app (c := 0) hT20 h1 h4)⟩
    refine df (by decide) ⟨fun t => main (-60) (by unfold opC; rw [if_pos t]), fun n1 => ⟨fun n2 => ?_, fun t => main (-61) (by unfold opC; rw [if_neg n1, if_pos t])⟩⟩
    have e : mkC b n op c = .ok (c1, L1) := by
      unfold mkC
      rw [ef]
      have : opC b n c1 = none := by unfold opC; rw [if_neg n1, if_neg n2]
      simp only [this]
    rw [e] at h
    exact ⟨isB_1, h 1 τ ⟨h1, rfl, h3, h4⟩⟩
theorem mkN_9 {b : By} {n c r : Nat} (t : tk b n c = 9) : mkN b n (opn b n (r + 1)) c = addS (-33) (mkN b n (opn b n r) (nx b n c)) := by
  conv => lhs; unfold mkN
  rw [if_pos t, opn_s, if_neg (by decide), if_pos rfl]
  cases mkN b n (opn b n r) (nx b n c) <;> rfl
theorem mkO_45 {b : By} {n c r : Nat} (t : tk b n c = 45) : mkO b n (opn b n (r + 1)) c = addS (-126) (mkO b n (opn b n r) (nx b n c)) := by
  conv => lhs; unfold mkO
  rw [if_neg (by omega), if_pos t, opn_s, if_neg (by decide), if_neg (by decide)]
  cases mkO b n (opn b n r) (nx b n c) <;> rfl
theorem OutX.at {b : By} {n T k c : Nat} {τ : St} (hG : GX b n T c k τ) (hk : k ≤ 160) : OutX b n T k τ (.error (pc b n c)) 0 τ := ⟨XFt.rf T k τ, rfl, hG.2.1.2.1, k, Nat.le_refl _, hk, hG.2.2.2⟩
theorem rowX_N {b : By} {n T : Nat} {ids : List Nat} {o r d : Nat} (hT : okT ids T) (hn : n ≤ 160) (hr : o + r = 5) (hf : Xok b n T ids o d 3 (mkC b n (opn b n r))) (h2 : 1 ≤ r → Xok b n T ids (o + 1) d 2 (mkN b n (opn b n (r - 1)))) : Xok b n T ids o (d + 1) 2 (mkN b n (opn b n r)) := by
  have hT20 := hT.2.1
  intro c k ρ post hc hk hG h
  rw [wgX_2]
  unfold wX7_readNot
  have e2 : gI ρ 2 3 = (9 : Int32) ↔ tk b n c = 9 := hG.2.1.tk 9 (by omega)
  have e5 : (nI o < (5 : Int32)) ↔ o < 5 := nI_ltI (b := 5) (by omega) (by omega)
  rw [e2, e5]
  refine ⟨fun t => ⟨fun o5 => ?_, fun o5 => ?_⟩, fun t => ?_⟩
  · obtain ⟨r', rfl⟩ : ∃ q, r = q + 1 := ⟨r - 1, by omega⟩
    rw [mkN_9 t] at h
    have hnx := nx_gt hc (show ¬ tk b n c = 0 by omega)
    rw [nI_1]
    have h2' := h2 (by omega)
    rw [Nat.add_sub_cancel] at h2'
    refine sX_nx hT20 hc hG (by omega) (fun υ f1 g1 => h2' _ _ υ _ hnx.2 (by omega) g1 (fun w υ2 ho2 => ?_))
    have ho3 : OutX b n T k ρ (mkN b n (opn b n r') (nx b n c)) w υ2 := ⟨(f1.t (T := T) (k := k)).tr (Nat.le_refl _) ho2.1, ho2.2⟩
    exact ho3.push hT hn (-33) (Gdd_N (Gdd_opn r')) hnx.2 (by omega) hG.2.2.1 (fun υ' h5 => ⟨h5.b, h w υ' h5⟩)
  · have : r = 0 := by omega
    subst this
    have e : mkN b n (opn b n 0) c = .error (pc b n c) := by
      unfold mkN
      rw [if_pos t, opn_0]
    rw [e] at h
    exact h 0 ρ (OutX.at hG (by omega))
  · have e : mkN b n (opn b n r) c = mkC b n (opn b n r) c := by
      unfold mkN
      rw [if_neg t]
    rw [e] at h
    exact hf c k ρ _ hc hk hG (fun v τ ho => ⟨ho.b, h v τ ho⟩)
theorem rowX_O {b : By} {n T : Nat} {ids : List Nat} {o r d : Nat} (hT : okT ids T) (hn : n ≤ 160) (hr : o + r = 5) (h6 : 1 ≤ r → Xok b n T ids (o + 1) d 6 (mkO b n (opn b n (r - 1)))) (h0 : 1 ≤ r → Xok b n T ids (o + 1) d 0 (mkE b n (opn b n (r - 1)))) : Xok b n T ids o (d + 2) 6 (mkO b n (opn b n r)) := by
  have hT20 := hT.2.1
  intro c k ρ post hc hk hG h
  rw [wgX_6]
  unfold wX7_readOne
  rintro _ rfl
  have q2 : gI ρ 2 3 = (2 : Int32) ↔ tk b n c = 2 := hG.2.1.tk 2 (by omega)
  have q3 : gI ρ 2 3 = (3 : Int32) ↔ tk b n c = 3 := hG.2.1.tk 3 (by omega)
  have q40 : gI ρ 2 3 = (40 : Int32) ↔ tk b n c = 40 := hG.2.1.tk 40 (by omega)
  have q45 : gI ρ 2 3 = (45 : Int32) ↔ tk b n c = 45 := hG.2.1.tk 45 (by omega)
  have e5 : ((5 : Int32) ≤ nI o) ↔ 5 ≤ o := nI_leI (a := 5) (by omega) (by omega)
  rw [q2, q3, q40, q45, e5, nI_1]
  have leaf : ∀ s : Int32, (tk b n c = 2 ∨ tk b n c = 3) → s = lf b n c → ∃ t, gR ρ 2 6 = some t ∧ okT ids t ∧ wX9_add ids t s ρ (fun σ1 => wX7_next ids σ1 (fun σ2 => post 1 σ2)) := by
    rintro s t rfl
    have hnx := nx_gt hc (show ¬ tk b n c = 0 by omega)
    have e : mkO b n (opn b n r) c = .ok (nx b n c, [lf b n c]) := by
      unfold mkO
      rw [if_pos t]
    rw [e] at h
    have hk160 : k < 160 := by omega
    obtain ⟨p1, p2⟩ := hG.push (s := lf b n c) hT20 hk160
    refine ⟨T, hG.2.2.1, hT, sX_add hT (by omega) hG.2.2.2 _ ?_⟩
    refine sX_nx hT20 hc p1 (by omega) (fun υ f1 g1 => h 1 υ ⟨(pushed_f (Nat.le_refl k)).tr (Nat.le_refl k) f1.t, rfl, g1, fun i hi => ?_⟩)
    rw [List.length_singleton] at hi
    have : i = 0 := by omega
    subst this
    rw [f1.1 _ _ (by omega)]
    exact p2
  have full : 5 ≤ o → (tk b n c = 40 ∨ tk b n c = 45) → post 0 ρ := by
    intro o5 t
    have : r = 0 := by omega
    subst this
    have e : mkO b n (opn b n 0) c = .error (pc b n c) := by
      unfold mkO
      rw [if_neg (by omega)]
      rcases t with t | t
      · rw [if_neg (by omega), if_pos t, opn_0]
      · rw [if_pos t, opn_0]
    rw [e] at h
    exact h 0 ρ (OutX.at hG (by omega))
  refine ⟨fun t => ?_, fun t => ?_, fun t => ⟨fun o5 => ⟨isB_0, full o5 (Or.inl t)⟩, fun o5 => ?_⟩, fun t => ⟨fun o5 => ⟨isB_0, full o5 (Or.inr t)⟩, fun o5 => ?_⟩, fun t => ?_⟩
  · refine leaf _ (Or.inl t) ?_
    unfold lf
    rw [if_pos t]
    exact hG.2.1.2.2.2.1 t
  · refine leaf _ (Or.inr t) ?_
    unfold lf
    have t' : ¬ tk b n c = 2 := by omega
    rw [if_neg t', hG.2.1.2.2.2.2 t]
  · obtain ⟨r', rfl⟩ : ∃ q, r = q + 1 := ⟨r - 1, by omega⟩
    have h0' := h0 (by omega)
    rw [Nat.add_sub_cancel] at h0'
    have hnx := nx_gt hc (show ¬ tk b n c = 0 by omega)
    have n23 : ¬ (tk b n c = 2 ∨ tk b n c = 3) := by omega
    have n45 : ¬ tk b n c = 45 := by omega
    rw [wgX_8]
    refine sX_nx hT20 hc hG (by omega) (fun υ f1 g1 => h0' _ _ υ _ hnx.2 (by omega) g1 (fun w υ2 ho2 => ?_))
    have ho3 : OutX b n T k ρ (mkE b n (opn b n r') (nx b n c)) w υ2 := ⟨(f1.t (T := T) (k := k)).tr (Nat.le_refl _) ho2.1, ho2.2⟩
    cases ef : mkE b n (opn b n r') (nx b n c) with
    | error p =>
      have e : mkO b n (opn b n (r' + 1)) c = .error p := by
        conv => lhs; unfold mkO
        rw [if_neg n23, if_neg n45, if_pos t, opn_s, if_pos rfl, ef]
      rw [e] at h
      rw [ef] at ho3
      rw [ho3.2.1]
      refine dt rfl (dt rfl ⟨isB_0, h 0 υ2 ⟨ho3.1, rfl, ho3.2.2⟩⟩)
    | ok r2 =>
      obtain ⟨c', L⟩ := r2
      have e : mkO b n (opn b n (r' + 1)) c = if tk b n c' = 41 then .ok (nx b n c', L) else .error (pc b n c') := by
        conv => lhs; unfold mkO
        rw [if_neg n23, if_neg n45, if_pos t, opn_s, if_pos rfl, ef]
      rw [e] at h
      rw [ef] at ho3
      obtain ⟨h1, h2, h3, h4⟩ := ho3
      obtain ⟨g2, g3, g4, -⟩ := Gdd_E (Gdd_opn r') _ _ _ hnx.2 ef
      have e41 : gI υ2 2 3 = (41 : Int32) ↔ tk b n c' = 41 := h3.2.1.tk 41 (by omega)
      rw [h2, e41]
      refine df (by decide) ⟨fun t41 => ?_, fun t41 => ?_⟩
      · rw [if_pos t41] at h
        refine sX_nx hT20 g3 h3 (by omega) (fun υ3 f3 g5 => df (by decide) ⟨isB_1, h 1 υ3 ⟨h1.tr (Nat.le_refl k) f3.t, rfl, g5, fun i hi => ?_⟩⟩)
        rw [f3.1 _ _ (by omega)]
        exact h4 i hi
      · rw [if_neg t41] at h
        exact dt rfl ⟨isB_0, h 0 υ2 ⟨h1, rfl, h3.2.1.2.1, k + L.length, Nat.le_add_right _ _, by omega, h3.2.2.2⟩⟩
  · obtain ⟨r', rfl⟩ : ∃ q, r = q + 1 := ⟨r - 1, by omega⟩
    have h6' := h6 (by omega)
    rw [Nat.add_sub_cancel] at h6'
    have hnx := nx_gt hc (show ¬ tk b n c = 0 by omega)
    rw [mkO_45 t] at h
    rw [wgX_7]
    refine sX_nx hT20 hc hG (by omega) (fun υ f1 g1 => h6' _ _ υ _ hnx.2 (by omega) g1 (fun w υ2 ho2 => ?_))
    have ho3 : OutX b n T k ρ (mkO b n (opn b n r') (nx b n c)) w υ2 := ⟨(f1.t (T := T) (k := k)).tr (Nat.le_refl _) ho2.1, ho2.2⟩
    refine ho3.push hT hn (-126) (Gdd_O (Gdd_opn r')) hnx.2 (by omega) hG.2.2.1 (fun υ' h5 => ⟨h5.b, ?_⟩)
    rcases h5.b with rfl | rfl
    · exact dt rfl ⟨isB_0, h 0 υ' h5⟩
    · exact df (by decide) ⟨isB_1, h 1 υ' h5⟩
  · have e : mkO b n (opn b n r) c = .error (pc b n c) := by
      unfold mkO
      rw [if_neg (by omega), if_neg t.2.2.2, if_neg t.2.2.1]
    rw [e] at h
    exact h 0 ρ (OutX.at hG (by omega))
theorem rowsX {b : By} {n T : Nat} {ids : List Nat} (hT : okT ids T) (hn : n ≤ 160) : ∀ r o D, o + r = 5 → Xok b n T ids o (D + 8 * r + 2) 6 (mkO b n (opn b n r)) ∧ Xok b n T ids o (D + 8 * r + 6) 2 (mkN b n (opn b n r)) ∧ Xok b n T ids o (D + 8 * r + 8) 0 (mkE b n (opn b n r)) := by
  intro r
  induction r with
  | zero =>
    intro o D ho
    have gd := Gdd_opn (b := b) (n := n) 0
    have r1 : Xok b n T ids o (D + 8 * 0 + 2) 6 (mkO b n (opn b n 0)) := rowX_O hT hn ho (fun z => absurd z (by decide)) (fun z => absurd z (by decide))
    have r2 := rowX_T hT hn (Gdd_O gd) r1
    have r3 := rowX_A hT hn (Gdd_T gd) r2
    have r4 := rowX_C (op := opn b n 0) hT hn (Gdd_A gd) r3
    have r5 : Xok b n T ids o (D + 8 * 0 + 6) 2 (mkN b n (opn b n 0)) := rowX_N hT hn ho r4 (fun z => absurd z (by decide))
    have r6 := rowX_B hT hn (Gdd_N gd) r5
    have r7 := rowX_E hT hn (Gdd_B gd) r6
    exact ⟨r1, r5, r7⟩
  | succ r ih =>
    intro o D ho
    have gd := Gdd_opn (b := b) (n := n) (r + 1)
    have i1 := (ih (o + 1) (D + 6) (by omega)).1
    have i2 := (ih (o + 1) (D + 7) (by omega)).2.1
    have i3 := (ih (o + 1) D (by omega)).2.2
    have e1 : D + 6 + 8 * r + 2 = D + 8 * (r + 1) := by omega
    have e2 : D + 7 + 8 * r + 6 = D + 8 * (r + 1) + 5 := by omega
    have e3 : D + 8 * r + 8 = D + 8 * (r + 1) := by omega
    rw [e1] at i1
    rw [e2] at i2
    rw [e3] at i3
    have r1 : Xok b n T ids o (D + 8 * (r + 1) + 2) 6 (mkO b n (opn b n (r + 1))) := rowX_O hT hn ho (fun _ => i1) (fun _ => i3)
    have r2 := rowX_T hT hn (Gdd_O gd) r1
    have r3 := rowX_A hT hn (Gdd_T gd) r2
    have r4 := rowX_C (op := opn b n (r + 1)) hT hn (Gdd_A gd) r3
    have r5 : Xok b n T ids o (D + 8 * (r + 1) + 6) 2 (mkN b n (opn b n (r + 1))) := rowX_N hT hn ho r4 (fun _ => i2)
    have r6 := rowX_B hT hn (Gdd_N gd) r5
    have r7 := rowX_E hT hn (Gdd_B gd) r6
    exact ⟨r1, r5, r7⟩
/-- what the class's reading may change -/
def XG (T : Nat) (ρ τ : St) : Prop := (∀ c j, ¬ ((c = 2 ∧ 1 ≤ j ∧ j ≤ 5) ∨ (c = T ∧ j = 1) ∨ c = T + 1 ∨ c = T + 2) → gI τ c j = gI ρ c j) ∧ (∀ c j, gJ τ c j = gJ ρ c j) ∧ ∀ c j, ¬ (c = 2 ∧ j = 6) → gR τ c j = gR ρ c j
theorem XG.tr {T : Nat} {ρ τ υ : St} (h : XG T ρ τ) (g : XG T τ υ) : XG T ρ υ := ⟨fun c j n => (g.1 c j n).trans (h.1 c j n), fun c j => (g.2.1 c j).trans (h.2.1 c j), fun c j n => (g.2.2 c j n).trans (h.2.2 c j n)⟩
theorem XFt.g {T k : Nat} {ρ τ : St} (h : XFt T k ρ τ) : XG T ρ τ := ⟨fun c j n => h.1 c j (by omega), h.2.1, fun c j _ => h.2.2 c j⟩
def OutPt (b : By) (n T i k : Nat) (ρ : St) (res : Rs) (v : Int32) (τ : St) : Prop := (∀ c j, ¬ ((c = 2 ∧ 2 ≤ j ∧ j ≤ 5) ∨ (c = T ∧ j = 1) ∨ (c = T + 1 ∧ k ≤ j) ∨ (c = T + 2 ∧ j = i)) → gI τ c j = gI ρ c j) ∧ (∀ c j, gJ τ c j = gJ ρ c j) ∧ (∀ c j, gR τ c j = gR ρ c j) ∧ match res with
  | .error p => v = 0 ∧ gI τ 2 4 = nI p
  | .ok (c', L) => v = 1 ∧ GX b n T c' (k + L.length) τ ∧ SL T k L τ ∧ gI τ (T + 2) i = nI (k + L.length)
theorem sX_part {b : By} {n T i c k : Nat} {ids : List Nat} {ρ : St} (hT : okT ids T) (hn : n ≤ 160) (hi : i < 3) (hc : c ≤ n) (hk : k ≤ c) (hG : GX b n T c k ρ) {post : Int32 → St → Prop} (h : ∀ v τ, OutPt b n T i k ρ (pPt b n (4 + i) c) v τ → post v τ) : wX7_readPart ids (nI i) ρ post := by
  have hT20 := hT.2.1
  have rE : Xok b n T ids 0 100 0 (mkE b n (opn b n 5)) := (rowsX hT hn 5 0 52 rfl).2.2
  have key : gI ρ 2 3 = (4 : Int32) + nI i ↔ tk b n c = 4 + i := by
    have e : (4 : Int32) + nI i = nI (4 + i) := nI_add 4 i
    rw [e]
    exact hG.2.1.tk (4 + i) (by omega)
  have out : ∀ (res : Rs) (v : Int32) (τ : St), XFt T k ρ τ → (match res with
    | .error p => v = 0 ∧ gI τ 2 4 = nI p
    | .ok (c', L) => v = 1 ∧ GX b n T c' (k + L.length) τ ∧ SL T k L τ ∧ gI τ (T + 2) i = nI (k + L.length)) → OutPt b n T i k ρ res v τ := fun res v τ f m => ⟨fun c j n => f.1 c j (by omega), f.2.1, f.2.2, m⟩
  unfold wX7_readPart
  rw [key]
  refine ⟨fun t => ?_, fun t => ?_⟩
  · have hnx := nx_gt hc (show ¬ tk b n c = 0 by omega)
    refine sX_nx hT20 hc hG (by omega) (fun υ f1 g1 => rE _ _ υ _ hnx.2 (by omega) g1 (fun w υ2 ho2 => ?_))
    have ho3 : OutX b n T k ρ (mkE b n (opn b n 5) (nx b n c)) w υ2 := ⟨(f1.t (T := T) (k := k)).tr (Nat.le_refl _) ho2.1, ho2.2⟩
    cases ef : mkE b n (opn b n 5) (nx b n c) with
    | error p =>
      have e : pPt b n (4 + i) c = .error p := by
        unfold pPt
        rw [if_pos t, ef]
      rw [e] at h
      rw [ef] at ho3
      rw [ho3.2.1]
      exact dt rfl (h 0 υ2 (out (.error p) 0 υ2 ho3.1 ⟨rfl, ho3.2.2.1⟩))
    | ok r2 =>
      obtain ⟨c', L⟩ := r2
      have e : pPt b n (4 + i) c = if tk b n c' = 59 then .ok (nx b n c', L) else .error (pc b n c') := by
        unfold pPt
        rw [if_pos t, ef]
      rw [e] at h
      rw [ef] at ho3
      obtain ⟨h1, h2, h3, h4⟩ := ho3
      obtain ⟨g2, g3, g4, -⟩ := Gdd_E (Gdd_opn 5) _ _ _ hnx.2 ef
      have e59 : gI υ2 2 3 = (59 : Int32) ↔ tk b n c' = 59 := h3.2.1.tk 59 (by omega)
      rw [h2, e59]
      refine df (by decide) ⟨fun t59 => ?_, fun t59 => ?_⟩
      · rw [if_pos t59] at h
        refine sX_nx hT20 g3 h3 (by omega) (fun υ3 f3 g5 => ?_)
        refine ⟨T, g5.2.2.1, hT, vin hi (by omega), ?_⟩
        rw [nI_clamp (by omega), g5.2.2.2]
        rintro _ rfl
        have F : XFt T k ρ υ3 := h1.tr (Nat.le_refl k) f3.t
        have S3 : SL T k L υ3 := fun j hj => by
          rw [f3.1 _ _ (by omega)]
          exact h4 j hj
        obtain ⟨⟨a1, a2, a3⟩, a4, a5, a6⟩ := g5
        have hT4 := hT.2.2.2
        refine h 1 _ ⟨fun a j hn' => ?_, F.2.1, F.2.2, rfl, ⟨⟨a1, ?_, fun q hq => ⟨(a3 q hq).1, ?_⟩⟩, ?_, a5, ?_⟩, fun j hj => ?_, gI_s⟩
        · rw [gI_o (by omega)]
          exact F.1 a j (by omega)
        · rw [gI_o (by omega)]; exact a2
        · rw [gI_o (by omega)]; exact (a3 q hq).2
        · unfold XS
          rw [gI_o (by omega), gI_o (by omega), gI_o (by omega), gI_o (by omega)]
          exact a4
        · rw [gI_o (by omega)]; exact a6
        · rw [gI_o (by omega)]; exact S3 j hj
      · rw [if_neg t59] at h
        exact h 0 υ2 (out (.error (pc b n c')) 0 υ2 h1 ⟨rfl, h3.2.1.2.1⟩)
  · have e : pPt b n (4 + i) c = .error (pc b n c) := by
      unfold pPt
      rw [if_neg t]
    rw [e] at h
    exact h 0 ρ (out (.error (pc b n c)) 0 ρ (XFt.rf T k ρ) ⟨rfl, hG.2.1.2.1⟩)
def OutI (b : By) (n t : Nat) (r : Int32) (τ : St) : Prop := match pAll b n with
  | .error p => r = nI p
  | .ok (L0, L1, L2) => r = -1 ∧ TXt L0 L1 L2 τ t
theorem sX_readInto {b : By} {n t : Nat} {ids : List Nat} {ρ : St} (hT : okT ids (20 + 4 * t)) (hB : TBx b n ρ) {post : Int32 → St → Prop} (h : ∀ r τ, XG (20 + 4 * t) ρ τ → gR τ 2 6 = some (20 + 4 * t) → gI τ 2 1 = 0 → OutI b n t r τ → post r τ) : wX7_readInto ids (20 + 4 * t) ρ post := by
  have hT4 := hT.2.2
  have hn := hB.1
  unfold wX7_readInto
  rintro _ rfl
  have eR : gR (uR ρ 2 6 (some (20 + 4 * t))) 2 6 = some (20 + 4 * t) := by rw [gR_uR, if_pos ⟨rfl, rfl⟩]
  refine ⟨20 + 4 * t, eR, hT, ?_⟩
  rintro _ rfl _ rfl
  have B0 : TBx b n (uI (uI (uR ρ 2 6 (some (20 + 4 * t))) (20 + 4 * t) 1 0) 2 2 0) := by
    obtain ⟨b1, b2, b3⟩ := hB
    refine ⟨b1, ?_, fun i hi => ⟨(b3 i hi).1, ?_⟩⟩
    · rw [gI_o (by omega), gI_o (by omega)]; exact b2
    · rw [gI_o (by omega), gI_o (by omega)]; exact (b3 i hi).2
  have F0 : XG (20 + 4 * t) ρ (uI (uI (uR ρ 2 6 (some (20 + 4 * t))) (20 + 4 * t) 1 0) 2 2 0) := by
    refine ⟨fun c j hn' => ?_, fun _ _ => rfl, fun c j hn' => ?_⟩
    · rw [gI_o (by omega), gI_o (by omega)]; rfl
    · show gR (uR ρ 2 6 (some (20 + 4 * t))) c j = gR ρ c j
      rw [gR_uR, if_neg hn']
  have C0 : gI (uI (uI (uR ρ 2 6 (some (20 + 4 * t))) (20 + 4 * t) 1 0) 2 2 0) (20 + 4 * t) 1 = nI 0 := by
    rw [gI_o (by omega), gI_s]; rfl
  refine sX_next B0 (c := 0) (Nat.zero_le _) gI_s (fun τ f1 hS => ?_)
  have G0 : GX b n (20 + 4 * t) 0 0 τ := ⟨B0.f f1, hS, (f1.2.2 _ _).trans eR, (f1.1 _ _ (by omega)).trans C0⟩
  have F1 : XG (20 + 4 * t) ρ τ := F0.tr (XFt.g (f1.t (T := 20 + 4 * t) (k := 0)))
  have R1 := G0.2.2.1
  have pg : ∀ {i k : Nat} {α β : St} {res : Rs} {v : Int32}, OutPt b n (20 + 4 * t) i k α res v β → XG (20 + 4 * t) α β := fun o => ⟨fun c j n => o.1 c j (by omega), o.2.1, fun c j _ => o.2.2.1 c j⟩
  have bad : ∀ (υ : St) (p : Nat), XG (20 + 4 * t) ρ υ → gR υ 2 6 = some (20 + 4 * t) → gI υ 2 4 = nI p → pAll b n = .error p → wX7_readInto_62 ids post 0 υ := by
    rintro υ p F R e4 ep _ rfl
    refine dt rfl (h _ _ ⟨fun c j n => ?_, F.2.1, F.2.2⟩ R gI_s ?_)
    · rw [gI_o (by omega)]
      exact F.1 c j n
    · unfold OutI
      rw [ep, gI_o (by omega)]
      exact e4
  have i3 : ∀ i : Nat, i < 4 → (((3 : Int32) ≤ nI i) ↔ 3 ≤ i) := fun i hi => nI_leI (a := 3) (by omega) (by omega)
  have z0 : (0 : Int32) = nI 0 := rfl
  refine ⟨4, ?_⟩
  rw [z0, wX7_readInto_25_s, i3 0 (by omega)]
  refine df (by omega) (df (by decide) (sX_part hT hn (by omega) (Nat.zero_le _) (Nat.le_refl _) G0 (fun v0 τ0 h0 => ?_)))
  rintro _ rfl
  rw [nI_1]
  cases p0 : pPt b n 4 0 with
  | error p =>
    have h0' : OutPt b n (20 + 4 * t) 0 0 τ (.error p) v0 τ0 := by rw [← p0]; exact h0
    rw [h0'.2.2.2.1, wX7_readInto_25_s, i3 (0 + 1) (by omega)]
    refine df (by omega) (dt rfl (dt rfl (bad τ0 p (F1.tr (pg h0')) ((h0'.2.2.1 _ _).trans R1) h0'.2.2.2.2 ?_)))
    unfold pAll
    rw [p0]
  | ok r0 =>
    obtain ⟨c1, L0⟩ := r0
    have h0' : OutPt b n (20 + 4 * t) 0 0 τ (.ok (c1, L0)) v0 τ0 := by rw [← p0]; exact h0
    obtain ⟨g1, g2, g3, -⟩ := Gdd_pt (by decide) _ _ _ (Nat.zero_le _) p0
    have F2 := F1.tr (pg h0')
    obtain ⟨x1, x2, x3, x4, G1, S0, E0⟩ := h0'
    rw [x4, wX7_readInto_25_s, i3 (0 + 1) (by omega)]
    refine df (by omega) (df (by decide) (sX_part hT hn (by omega) g2 (by omega) G1 (fun v1 τ1 h1 => ?_)))
    rintro _ rfl
    rw [nI_1]
    cases p1 : pPt b n 5 c1 with
    | error p =>
      have h1' : OutPt b n (20 + 4 * t) 1 (0 + L0.length) τ0 (.error p) v1 τ1 := by rw [← p1]; exact h1
      rw [h1'.2.2.2.1, wX7_readInto_25_s, i3 (0 + 1 + 1) (by omega)]
      refine df (by omega) (dt rfl (dt rfl (bad τ1 p (F2.tr (pg h1')) ((h1'.2.2.1 _ _).trans ((x3 _ _).trans R1)) h1'.2.2.2.2 ?_)))
      unfold pAll
      simp only [p0, p1]
    | ok r1 =>
      obtain ⟨c2, L1⟩ := r1
      have h1' : OutPt b n (20 + 4 * t) 1 (0 + L0.length) τ0 (.ok (c2, L1)) v1 τ1 := by rw [← p1]; exact h1
      obtain ⟨k1, k2, k3, -⟩ := Gdd_pt (by decide) _ _ _ g2 p1
      have F3 := F2.tr (pg h1')
      obtain ⟨y1, y2, y3, y4, G2, S1, E1⟩ := h1'
      rw [y4, wX7_readInto_25_s, i3 (0 + 1 + 1) (by omega)]
      refine df (by omega) (df (by decide) (sX_part hT hn (by omega) k2 (by omega) G2 (fun v2 τ2 h2 => ?_)))
      rintro _ rfl
      rw [nI_1]
      cases p2 : pPt b n 6 c2 with
      | error p =>
        have h2' : OutPt b n (20 + 4 * t) 2 (0 + L0.length + L1.length) τ1 (.error p) v2 τ2 := by rw [← p2]; exact h2
        rw [h2'.2.2.2.1, wX7_readInto_25_s, i3 (0 + 1 + 1 + 1) (by omega)]
        refine dt (by omega) (dt rfl (bad τ2 p (F3.tr (pg h2')) ((h2'.2.2.1 _ _).trans ((y3 _ _).trans ((x3 _ _).trans R1))) h2'.2.2.2.2 ?_))
        unfold pAll
        simp only [p0, p1, p2]
      | ok r2 =>
        obtain ⟨c3, L2⟩ := r2
        have h2' : OutPt b n (20 + 4 * t) 2 (0 + L0.length + L1.length) τ1 (.ok (c3, L2)) v2 τ2 := by rw [← p2]; exact h2
        obtain ⟨l1, l2, l3, -⟩ := Gdd_pt (by decide) _ _ _ k2 p2
        have F4 := F3.tr (pg h2')
        obtain ⟨w1, w2, w3, w4, G3, S2, E2⟩ := h2'
        have R4 : gR τ2 2 6 = some (20 + 4 * t) := G3.2.2.1
        rw [w4, wX7_readInto_25_s, i3 (0 + 1 + 1 + 1) (by omega)]
        refine dt (by omega) (df (by decide) ?_)
        have q0 : gI τ2 2 3 = 0 ↔ tk b n c3 = 0 := G3.2.1.tk 0 (by omega)
        rw [q0]
        refine ⟨fun t0 => bad τ2 (pc b n c3) F4 R4 G3.2.1.2.1 ?_, fun t0 => ?_⟩
        · unfold pAll
          simp only [p0, p1, p2]
          rw [if_neg t0]
        · rintro _ rfl
          refine df (by decide) (h _ _ ⟨fun c j n => ?_, F4.2.1, F4.2.2⟩ R4 gI_s ?_)
          · rw [gI_o (by omega)]
            exact F4.1 c j n
          · have e : pAll b n = .ok (L0, L1, L2) := by
              unfold pAll
              simp only [p0, p1, p2]
              rw [if_pos t0]
            unfold OutI
            rw [e]
            have S0' : SL (20 + 4 * t) 0 L0 τ2 := fun i hi => by
              rw [w1 _ _ (by omega), y1 _ _ (by omega)]
              exact S0 i hi
            have S1' : SL (20 + 4 * t) (0 + L0.length) L1 τ2 := fun i hi => by
              rw [w1 _ _ (by omega)]
              exact S1 i hi
            have S : SL (20 + 4 * t) 0 (L0 ++ L1 ++ L2) τ2 := (S0'.app S1').app (by
              rw [List.length_append, ← Nat.add_assoc]
              exact S2)
            refine ⟨rfl, fun i hi => ?_, ?_, ?_, ?_⟩
            · rw [gI_o (by omega)]
              have := S i hi
              rw [Nat.zero_add] at this
              rw [← this]
              congr 1
              omega
            · have e2 : 22 + 4 * t = 20 + 4 * t + 2 := by omega
              rw [gI_o (by omega), e2, w1 _ _ (by omega), y1 _ _ (by omega), E0, Nat.zero_add]
            · have e2 : 22 + 4 * t = 20 + 4 * t + 2 := by omega
              rw [gI_o (by omega), e2, w1 _ _ (by omega), E1, List.length_append, Nat.zero_add]
            · have e2 : 22 + 4 * t = 20 + 4 * t + 2 := by omega
              rw [gI_o (by omega), e2, E2, List.length_append, List.length_append, Nat.zero_add]
