/-! PURE: the reference reads a text -/
theorem isS_ge {x : Nat} (h : isS x = true) : 40 ≤ x := by have := isS_r h; omega
/-- word tokens by their numbers -/
theorem tk_wv {b : By} {n c : Nat} : (wv b n c ≠ 0 → tk b n c = wtk (wv b n c)) ∧ (wv b n c = 0 → ¬ (3 ≤ tk b n c ∧ tk b n c ≤ 9)) := by
  unfold tk
  by_cases g : n ≤ pc b n c
  · rw [if_pos g, wv_no (fun z => by omega)]
    exact ⟨fun z => absurd rfl z, fun _ => by omega⟩
  · rw [if_neg g]
    cases hD : isD (b (pc b n c))
    · simp only [Bool.false_eq_true, if_false]
      cases hL : isL (b (pc b n c))
      · rw [wv_no (fun z => by rw [hL] at z; exact absurd z.2 (by decide))]
        simp only [Bool.false_eq_true, if_false]
        refine ⟨fun z => absurd rfl z, fun _ => ?_⟩
        cases hS : isS (b (pc b n c))
        · simp
        · have := isS_ge hS
          simp only [if_true]
          omega
      · simp only [if_true]
        refine ⟨fun _ => trivial, fun z => ?_⟩
        rw [z]
        decide
    · simp only [if_true]
      have hL : isL (b (pc b n c)) = false := by
        unfold isD at hD
        unfold isL
        simp at hD ⊢
        omega
      rw [wv_no (fun z => by rw [hL] at z; exact absurd z.2 (by decide))]
      refine ⟨fun z => absurd rfl z, fun _ => ?_⟩
      split <;> omega
theorem wtk_key {v : Nat} : (wtk v = 4 ↔ v = 456399) ∧ (wtk v = 5 ↔ v = 262822) ∧ (wtk v = 6 ↔ v = 453836) ∧ (wtk v = 7 ↔ v = 423) ∧ (wtk v = 8 ↔ v = 1111) ∧ (wtk v = 9 ↔ v = 10631) ∧ (wtk v = 3 ↔ (v = 223456 ∨ v = 11055682 ∨ v = 465874 ∨ v = 247162 ∨ v = 381245 ∨ v = 4562587)) := by
  unfold wtk
  by_cases h1 : v = 456399
  · subst h1; decide
  by_cases h2 : v = 262822
  · subst h2; decide
  by_cases h3 : v = 453836
  · subst h3; decide
  by_cases h4 : v = 423
  · subst h4; decide
  by_cases h5 : v = 1111
  · subst h5; decide
  by_cases h6 : v = 10631
  · subst h6; decide
  rw [if_neg h1, if_neg h2, if_neg h3, if_neg h4, if_neg h5, if_neg h6]
  by_cases h7 : v = 223456 ∨ v = 11055682 ∨ v = 465874 ∨ v = 247162 ∨ v = 381245 ∨ v = 4562587
  · rw [if_pos h7]; omega
  · rw [if_neg h7]; omega
theorem tk_keys {b : By} {n c : Nat} : (tk b n c = 4 ↔ wv b n c = 456399) ∧ (tk b n c = 5 ↔ wv b n c = 262822) ∧ (tk b n c = 6 ↔ wv b n c = 453836) ∧ (tk b n c = 7 ↔ wv b n c = 423) ∧ (tk b n c = 8 ↔ wv b n c = 1111) ∧ (tk b n c = 9 ↔ wv b n c = 10631) ∧ (tk b n c = 3 ↔ (wv b n c = 223456 ∨ wv b n c = 11055682 ∨ wv b n c = 465874 ∨ wv b n c = 247162 ∨ wv b n c = 381245 ∨ wv b n c = 4562587)) := by
  obtain ⟨h1, h2⟩ := tk_wv (b := b) (n := n) (c := c)
  by_cases z : wv b n c = 0
  · have := h2 z
    rw [z]
    omega
  · rw [h1 z]
    exact wtk_key
theorem sR_isWord {b : By} {n c : Nat} {τ : St} (hS : RSt b n c τ) (h43 : gI τ 0 43 = 0) {w : Nat} (hw : 0 < w) (hw2 : w < 2 ^ 63) {post : Int32 → St → Prop} (h : post (bI (decide (wv b n c = w))) τ) : wX12_isWord (lN w) τ post := by
  have no : wv b n c ≠ w → wX12_isWord_28 post τ := by
    intro z
    rw [decide_eq_false z] at h
    exact ⟨isB_0, h⟩
  unfold wX12_isWord
  rw [h43]
  refine dn rfl ?_
  rcases hS.2 with ⟨t, e38, e0⟩ | ⟨t, e38, -, -, e0⟩ | ⟨t, e38, e40, -⟩ | ⟨t, e38, -, -, e0⟩ | ⟨t, e38, e0⟩
  · rw [e38]; exact dm (by decide) (no (by omega))
  · rw [e38]; exact dm (by decide) (no (by omega))
  · rw [e38]
    refine dn rfl ?_
    rw [lg_cmp_eq]
    rcases e40 with ⟨e, hl⟩ | ⟨e, e0⟩
    · rw [e, lN_eqI hl hw2]
      by_cases z : wv b n c = w
      · rw [decide_eq_true z] at h
        exact dn z ⟨isB_1, h⟩
      · exact dm z (no z)
    · rw [e]
      refine dm (fun z => ?_) (no (by omega))
      have := congrArg Int64.toInt z
      rw [lN_I hw2] at this
      have m1 : (-1 : Int64).toInt = -1 := by decide
      omega
  · rw [e38]; exact dm (by decide) (no (by omega))
  · rw [e38]; exact dm (by decide) (no (by omega))
theorem sR_isWord_b {τ : St} (h43 : gI τ 0 43 = 1) (w : Int64) {post : Int32 → St → Prop} (h : post 0 τ) : wX12_isWord w τ post := by
  unfold wX12_isWord
  rw [h43]
  exact dm (by decide) ⟨isB_0, h⟩
theorem sR_isSign_b {τ : St} (h43 : gI τ 0 43 = 1) (s : Int32) {post : Int32 → St → Prop} (h : post 0 τ) : wX12_isSign s τ post := by
  unfold wX12_isSign
  rw [h43]
  exact dm (by decide) ⟨isB_0, h⟩
theorem sR_isSign {b : By} {n c : Nat} {τ : St} (hS : RSt b n c τ) (h43 : gI τ 0 43 = 0) {s : Nat} (hs : isS s = true) {post : Int32 → St → Prop} (h : post (bI (decide (tk b n c = s))) τ) : wX12_isSign (nI s) τ post := by
  have hr := isS_r hs
  have hs40 : 40 ≤ s ∧ s < 62 := by omega
  have no : tk b n c ≠ s → wX12_isSign_29 post τ := by
    intro z
    rw [decide_eq_false z] at h
    exact ⟨isB_0, h⟩
  have wl := wtk_r (wv b n c)
  unfold wX12_isSign
  rw [h43]
  refine dn rfl ?_
  rcases hS.2 with ⟨t, e38, e0⟩ | ⟨t, e38, -, -, e0⟩ | ⟨t, e38, e40, -⟩ | ⟨t, e38, e40, -, e0⟩ | ⟨t, e38, e0⟩
  · rw [e38]; exact dm (by decide) (no (by omega))
  · rw [e38]; exact dm (by decide) (no (by omega))
  · rw [e38]; exact dm (by decide) (no (by omega))
  · have ht := isS_r t
    rw [e38]
    refine dn rfl ?_
    rw [lg_cmp_eq, e40, nI_l (by omega), lN_eqI (by omega) (by omega)]
    by_cases z : tk b n c = s
    · rw [decide_eq_true z] at h
      exact dn z ⟨isB_1, h⟩
    · exact dm z (no z)
  · rw [e38]; exact dm (by decide) (no (by omega))
theorem RSt.h41 {b : By} {n c : Nat} {τ : St} (h : RSt b n c τ) (h0 : ¬ tk b n c = 0) (h1 : ¬ tk b n c = 1) : gI τ 0 41 = nI (nx b n c) := by
  rcases h.2 with ⟨t, -⟩ | ⟨-, -, -, e, -⟩ | ⟨-, -, -, e⟩ | ⟨-, -, -, e, -⟩ | ⟨t, -⟩
  · exact absurd t h0
  · exact e
  · exact e
  · exact e
  · exact absurd t h1
/-- no fault yet, at c, o open -/
def GS (b : By) (n x o c : Nat) (nm : Nat → Int32) (τ : St) : Prop := TB b n x τ ∧ RSt b n c τ ∧ gI τ 0 43 = 0 ∧ gI τ 0 42 = nI o ∧ ∀ i, i < 6 → gI τ 0 (45 + i) = nm i
def BS (p o : Nat) (τ : St) : Prop := gI τ 0 43 = 1 ∧ gI τ 0 44 = nI p ∧ gI τ 0 42 = nI o
def Out (b : By) (n x o c : Nat) (nm : Nat → Int32) (ρ : St) (res : Rs) (v : Int32) (τ : St) : Prop := RF ρ τ ∧ match res with
  | .error p => BS p o τ
  | .ok (c', L) => c ≤ c' ∧ c' ≤ n ∧ GS b n x o c' nm τ ∧ (∃ k, Ex L k) ∧ v = val nm L
theorem sR_fail {τ : St} {p : Nat} (h43 : gI τ 0 43 = 0) (h39 : gI τ 0 39 = nI p) {post : St → Prop} (h : ∀ υ, RF τ υ → gI υ 0 42 = gI τ 0 42 → gI υ 0 43 = 1 → gI υ 0 44 = nI p → post υ) : wX12_fail τ post := by
  unfold wX12_fail
  rw [h43]
  refine dn rfl ?_
  rintro s2 rfl
  rw [gI_o (by omega), h39]
  rintro s3 rfl
  exact h _ (((RF.rf τ).uI (by omega)).uI (by omega)) (by rw [gI_o (by omega), gI_o (by omega)]) (by rw [gI_o (by omega), gI_s]) gI_s
/-- on to the next token -/
theorem sR_nx {b : By} {n x o c : Nat} {nm : Nat → Int32} {τ : St} (hc : c ≤ n) (hG : GS b n x o c nm τ) (h0 : ¬ tk b n c = 0) (h1 : ¬ tk b n c = 1) {post : St → Prop} (h : ∀ υ, RF τ υ → GS b n x o (nx b n c) nm υ → post υ) : wX12_next τ post := by
  obtain ⟨g1, g2, g3, g4, g5⟩ := hG
  refine sR_next g1 (nx_gt hc h0).2 (g2.h41 h0 h1) (fun υ f e42 e43 e44 hS => h υ f ⟨g1.f f, hS, e43.trans g3, e42.trans g4, fun i hi => (f.1 _ _ (by omega)).trans (g5 i hi)⟩)
theorem sR_opens {b : By} {n x o c : Nat} {nm : Nat → Int32} {τ : St} (ho : o ≤ 5) (hc : c ≤ n) (hG : GS b n x o c nm τ) (h0 : ¬ tk b n c = 0) (h1 : ¬ tk b n c = 1) {post : Int32 → St → Prop} (hb : o = 5 → ∀ υ, RF τ υ → BS (pc b n c) o υ → post 0 υ) (hy : o < 5 → ∀ υ, RF τ υ → GS b n x (o + 1) (nx b n c) nm υ → post 1 υ) : wX12_opens τ post := by
  obtain ⟨g1, g2, g3, g4, g5⟩ := hG
  have e5 : (nI o = (5 : Int32)) ↔ o = 5 := nI_eq (b := 5) (by omega) (by omega)
  unfold wX12_opens
  rw [g4, e5]
  refine ⟨fun z => ?_, fun z => ?_⟩
  · rintro s2 rfl
    rw [nI_1]
    have f1 : RF τ (uI τ 0 42 (nI (o + 1))) := (RF.rf τ).uI (by omega)
    refine sR_next (g1.f f1) (nx_gt hc h0).2 (by rw [gI_o (by omega)]; exact g2.h41 h0 h1) (fun υ f e42 e43 e44 hS => hy (by omega) υ (f1.tr f) ⟨(g1.f f1).f f, hS, ?_, ?_, fun i hi => ?_⟩)
    · rw [e43, gI_o (by omega)]; exact g3
    · rw [e42, gI_s]
    · rw [f.1 _ _ (by omega), gI_o (by omega)]; exact g5 i hi
  · exact sR_fail g3 g2.1 (fun υ f e42 e43 e44 => hb z υ f ⟨e43, e44, e42.trans g4⟩)
def Rok (b : By) (n x o : Nat) (nm : Nat → Int32) (d sel : Nat) (f : Nat → Rs) : Prop := ∀ (c : Nat) (ρ : St) (post : Int32 → St → Prop), c ≤ n → GS b n x o c nm ρ → (∀ v τ, Out b n x o c nm ρ (f c) v τ → post v τ) → wgR d sel ρ post
theorem tk_end {b : By} {n c : Nat} (h : n ≤ c) : tk b n c = 0 := by
  have := pc_ge b n c
  unfold tk
  rw [if_pos (by omega)]
theorem bin_e {op : Nat → Option Int32} {nxt : Nat → Nat} {f : Nat → Rs} {c p : Nat} (h : f c = .error p) : bin op nxt f c = .error p := by unfold bin; rw [h]
theorem bin_o {op : Nat → Option Int32} {nxt : Nat → Nat} {f : Nat → Rs} {c c' : Nat} {L : List Int32} (h : f c = .ok (c', L)) : bin op nxt f c = bl op nxt f 160 c' L := by unfold bin; rw [h]
/-- a row of operands with a sign between -/
theorem loop_R {b : By} {n x o : Nat} {nm : Nat → Int32} (hn : n ≤ 160) {f : Nat → Rs} {op : Nat → Option Int32} (hop : ∀ c s, op c = some s → ¬ tk b n c = 0 ∧ ¬ tk b n c = 1 ∧ isBn s) (Lp : (Int32 → St → Prop) → Nat → Int32 → St → Prop) (h_no : ∀ post N c v τ, GS b n x o c nm τ → op c = none → post v τ → Lp post (N + 1) v τ) (h_bad : ∀ post N p v τ, BS p o τ → post v τ → Lp post (N + 1) v τ) (h_go : ∀ post N c s v τ, c ≤ n → GS b n x o c nm τ → op c = some s → (∀ w υ, Out b n x o (nx b n c) nm τ (f (nx b n c)) w υ → Lp post N (jn v s w) υ) → Lp post (N + 1) v τ) (post : Int32 → St → Prop) : ∀ fuel c c0 L v k τ ρ, n ≤ c + fuel → c0 ≤ c → c ≤ n → RF ρ τ → GS b n x o c nm τ → Ex L k → v = val nm L → (∀ v τ', Out b n x o c0 nm ρ (bl op (nx b n) f fuel c L) v τ' → post v τ') → Lp post (fuel + 1) v τ := by
  intro fuel
  induction fuel with
  | zero =>
    intro c c0 L v k τ ρ hf h0 hc hF hG hE hv h
    have hno : op c = none := by
      cases e : op c with
      | none => rfl
      | some s => exact absurd (tk_end (by omega)) (hop c s e).1
    exact h_no post 0 c v τ hG hno (h v τ ⟨hF, h0, hc, hG, ⟨k, hE⟩, hv⟩)
  | succ fuel ih =>
    intro c c0 L v k τ ρ hf h0 hc hF hG hE hv h
    rw [bl_s] at h
    cases e : op c with
    | none =>
      rw [e] at h
      exact h_no post (fuel + 1) c v τ hG e (h v τ ⟨hF, h0, hc, hG, ⟨k, hE⟩, hv⟩)
    | some s =>
      rw [e] at h
      obtain ⟨t0, t1, hs⟩ := hop c s e
      have hnx := nx_gt hc t0
      refine h_go post (fuel + 1) c s v τ hc hG e (fun w υ ho => ?_)
      cases ef : f (nx b n c) with
      | error p =>
        rw [ef] at ho
        simp only [ef] at h
        exact h_bad post fuel p _ υ ho.2 (h _ υ ⟨hF.tr ho.1, ho.2⟩)
      | ok r =>
        obtain ⟨c', L'⟩ := r
        rw [ef] at ho
        simp only [ef] at h
        obtain ⟨f1, q1, q2, q3, ⟨k', q4⟩, q5⟩ := ho
        exact ih c' c0 (L ++ L' ++ [s]) _ (k + k') υ ρ (by omega) (by omega) q2 (hF.tr f1) q3 (Ex_b hs hE q4) (by rw [val_b nm hs hE q4, hv, q5]) h
theorem bin_R {b : By} {n x o : Nat} {nm : Nat → Int32} (hn : n ≤ 160) {f : Nat → Rs} {op : Nat → Option Int32} (hop : ∀ c s, op c = some s → ¬ tk b n c = 0 ∧ ¬ tk b n c = 1 ∧ isBn s) (Lp : (Int32 → St → Prop) → Nat → Int32 → St → Prop) (h_no : ∀ post N c v τ, GS b n x o c nm τ → op c = none → post v τ → Lp post (N + 1) v τ) (h_bad : ∀ post N p v τ, BS p o τ → post v τ → Lp post (N + 1) v τ) (h_go : ∀ post N c s v τ, c ≤ n → GS b n x o c nm τ → op c = some s → (∀ w υ, Out b n x o (nx b n c) nm τ (f (nx b n c)) w υ → Lp post N (jn v s w) υ) → Lp post (N + 1) v τ) {c : Nat} {ρ : St} (post : Int32 → St → Prop) (h : ∀ v τ, Out b n x o c nm ρ (bin op (nx b n) f c) v τ → post v τ) (v : Int32) (τ : St) (ho : Out b n x o c nm ρ (f c) v τ) : ∃ N, Lp post N v τ := by
  cases ef : f c with
  | error p =>
    rw [ef] at ho
    rw [bin_e ef] at h
    exact ⟨1, h_bad post 0 p v τ ho.2 (h v τ ho)⟩
  | ok r =>
    obtain ⟨c', L⟩ := r
    rw [ef] at ho
    rw [bin_o ef] at h
    obtain ⟨f1, q1, q2, q3, ⟨k', q4⟩, q5⟩ := ho
    exact ⟨161, loop_R hn hop Lp h_no h_bad h_go post 160 c' c L v k' τ ρ (by omega) q1 q2 f1 q3 q4 q5 h⟩
theorem row_term {b : By} {n x o : Nat} {nm : Nat → Int32} (hn : n ≤ 160) {d : Nat} {f : Nat → Rs} (hf : Rok b n x o nm d 5 f) : Rok b n x o nm (d + 1) 4 (bin (opT b n) (nx b n) f) := by
  intro c ρ post hc hG h
  rw [wgR_4]
  refine hf c ρ _ hc hG (fun v τ ho => ?_)
  have hop : ∀ c s, opT b n c = some s → ¬ tk b n c = 0 ∧ ¬ tk b n c = 1 ∧ isBn s := by
    intro c s e
    unfold opT at e
    split at e
    · rename_i t
      obtain rfl := Option.some.inj e
      exact ⟨by omega, by omega, by unfold isBn; simp⟩
    · exact absurd e (by simp)
  refine bin_R hn hop (fun post N v τ => wX12_term_5 (wgR d) post N v τ) ?_ ?_ ?_ post h v τ ho
  · intro post N c v τ g e hp
    show wX12_term_5 (wgR d) post (N + 1) v τ
    rw [wX12_term_5_s]
    refine sR_isSign (s := 42) g.2.1 g.2.2.1 rfl ?_
    have t : ¬ tk b n c = 42 := fun t => by unfold opT at e; rw [if_pos t] at e; exact absurd e (by simp)
    rw [decide_eq_false t]
    exact dt rfl hp
  · intro post N p v τ g hp
    show wX12_term_5 (wgR d) post (N + 1) v τ
    rw [wX12_term_5_s]
    exact sR_isSign_b g.1 _ (dt rfl hp)
  · intro post N c s v τ hc g e hk
    have t : tk b n c = 42 ∧ s = -42 := by
      unfold opT at e
      split at e
      · rename_i t
        exact ⟨t, (Option.some.inj e).symm⟩
      · exact absurd e (by simp)
    obtain ⟨t, rfl⟩ := t
    show wX12_term_5 (wgR d) post (N + 1) v τ
    rw [wX12_term_5_s]
    refine sR_isSign (s := 42) g.2.1 g.2.2.1 rfl ?_
    rw [decide_eq_true t]
    refine df (by decide) (sR_nx hc g (by omega) (by omega) (fun υ f1 g1 => hf _ υ _ (nx_gt hc (by omega)).2 g1 (fun w υ2 ho2 => ?_)))
    rintro v7 rfl
    exact hk w υ2 ⟨f1.tr ho2.1, ho2.2⟩
theorem row_added {b : By} {n x o : Nat} {nm : Nat → Int32} (hn : n ≤ 160) {d : Nat} {f : Nat → Rs} (hf : Rok b n x o nm d 4 f) : Rok b n x o nm (d + 1) 3 (bin (opA b n) (nx b n) f) := by
  intro c ρ post hc hG h
  rw [wgR_3]
  refine hf c ρ _ hc hG (fun v τ ho => ?_)
  have hop : ∀ c s, opA b n c = some s → ¬ tk b n c = 0 ∧ ¬ tk b n c = 1 ∧ isBn s := by
    intro c s e
    unfold opA at e
    split at e
    · obtain rfl := Option.some.inj e
      exact ⟨by omega, by omega, by unfold isBn; simp⟩
    · split at e
      · obtain rfl := Option.some.inj e
        exact ⟨by omega, by omega, by unfold isBn; simp⟩
      · exact absurd e (by simp)
  refine bin_R hn hop (fun post N v τ => wX12_added_5 (wgR d) post N v τ) ?_ ?_ ?_ post h v τ ho
  · intro post N c v τ g e hp
    show wX12_added_5 (wgR d) post (N + 1) v τ
    rw [wX12_added_5_s]
    have t1 : ¬ tk b n c = 43 := fun t => by unfold opA at e; rw [if_pos t] at e; exact absurd e (by simp)
    have t2 : ¬ tk b n c = 45 := fun t => by unfold opA at e; rw [if_neg t1, if_pos t] at e; exact absurd e (by simp)
    refine sR_isSign (s := 43) g.2.1 g.2.2.1 rfl ?_
    rw [decide_eq_false t1]
    refine dn rfl (sR_isSign (s := 45) g.2.1 g.2.2.1 rfl ?_)
    rw [decide_eq_false t2]
    exact dt rfl hp
  · intro post N p v τ g hp
    show wX12_added_5 (wgR d) post (N + 1) v τ
    rw [wX12_added_5_s]
    exact sR_isSign_b g.1 _ (dn rfl (sR_isSign_b g.1 _ (dt rfl hp)))
  · intro post N c s v τ hc g e hk
    show wX12_added_5 (wgR d) post (N + 1) v τ
    rw [wX12_added_5_s]
    have e40 : isS (tk b n c) = true → gJ τ 0 40 = lN (tk b n c) := by
      intro hs
      have hr := isS_r hs
      have wl := wtk_r (wv b n c)
      rcases g.2.1.2 with ⟨t, -⟩ | ⟨t, -⟩ | ⟨t, -⟩ | ⟨-, -, e, -⟩ | ⟨t, -⟩
      · omega
      · omega
      · omega
      · exact e
      · omega
    have main : (tk b n c = 43 ∧ s = -43) ∨ (tk b n c = 45 ∧ s = -45) → wX12_added_23 (wgR d) (wX12_added_5 (wgR d) post N) post v τ := by
      rintro (⟨t, rfl⟩ | ⟨t, rfl⟩)
      · have e4 := e40 (by rw [t]; rfl)
        unfold wX12_added_23
        rw [e4, t, lg_cmp_eq]
        refine dn rfl (sR_nx hc g (by omega) (by omega) (fun υ f1 g1 => hf _ υ _ (nx_gt hc (by omega)).2 g1 (fun w υ2 ho2 => ?_)))
        exact df (by decide) (hk w υ2 ⟨f1.tr ho2.1, ho2.2⟩)
      · have e4 := e40 (by rw [t]; rfl)
        unfold wX12_added_23
        rw [e4, t, lg_cmp_eq]
        refine dm (by decide) (sR_nx hc g (by omega) (by omega) (fun υ f1 g1 => hf _ υ _ (nx_gt hc (by omega)).2 g1 (fun w υ2 ho2 => ?_)))
        exact dt rfl (hk w υ2 ⟨f1.tr ho2.1, ho2.2⟩)
    have t : (tk b n c = 43 ∧ s = -43) ∨ (tk b n c = 45 ∧ s = -45) := by
      unfold opA at e
      split at e
      · rename_i t
        exact Or.inl ⟨t, (Option.some.inj e).symm⟩
      · split at e
        · rename_i t
          exact Or.inr ⟨t, (Option.some.inj e).symm⟩
        · exact absurd e (by simp)
    refine sR_isSign (s := 43) g.2.1 g.2.2.1 rfl (bI_e (fun c1 => ?_) (fun _ => main t))
    refine sR_isSign (s := 45) g.2.1 g.2.2.1 rfl (bI_d (fun c2 => ?_) (fun _ => main t))
    have := of_decide_eq_false c1
    have := of_decide_eq_false c2
    omega
theorem row_both {b : By} {n x o : Nat} {nm : Nat → Int32} (hn : n ≤ 160) {d : Nat} {f : Nat → Rs} (hf : Rok b n x o nm d 2 f) : Rok b n x o nm (d + 1) 1 (bin (opB b n) (nx b n) f) := by
  intro c ρ post hc hG h
  rw [wgR_1]
  refine hf c ρ _ hc hG (fun v τ ho => ?_)
  have hop : ∀ c s, opB b n c = some s → ¬ tk b n c = 0 ∧ ¬ tk b n c = 1 ∧ isBn s := by
    intro c s e
    unfold opB at e
    split at e
    · obtain rfl := Option.some.inj e
      exact ⟨by omega, by omega, by unfold isBn; simp⟩
    · exact absurd e (by simp)
  have key := fun (c : Nat) => (tk_keys (b := b) (n := n) (c := c))
  refine bin_R hn hop (fun post N v τ => wX12_both_5 (wgR d) post N v τ) ?_ ?_ ?_ post h v τ ho
  · intro post N c v τ g e hp
    show wX12_both_5 (wgR d) post (N + 1) v τ
    rw [wX12_both_5_s]
    refine sR_isWord (w := 1111) g.2.1 g.2.2.1 (by decide) (by decide) ?_
    have t : ¬ tk b n c = 8 := fun t => by unfold opB at e; rw [if_pos t] at e; exact absurd e (by simp)
    rw [decide_eq_false (fun z => t ((key c).2.2.2.2.1.mpr z))]
    exact dt rfl hp
  · intro post N p v τ g hp
    show wX12_both_5 (wgR d) post (N + 1) v τ
    rw [wX12_both_5_s]
    exact sR_isWord_b g.1 _ (dt rfl hp)
  · intro post N c s v τ hc g e hk
    have t : tk b n c = 8 ∧ s = -38 := by
      unfold opB at e
      split at e
      · rename_i t
        exact ⟨t, (Option.some.inj e).symm⟩
      · exact absurd e (by simp)
    obtain ⟨t, rfl⟩ := t
    show wX12_both_5 (wgR d) post (N + 1) v τ
    rw [wX12_both_5_s]
    refine sR_isWord (w := 1111) g.2.1 g.2.2.1 (by decide) (by decide) ?_
    rw [decide_eq_true ((key c).2.2.2.2.1.mp t)]
    refine df (by decide) (sR_nx hc g (by omega) (by omega) (fun υ f1 g1 => hf _ υ _ (nx_gt hc (by omega)).2 g1 (fun w υ2 ho2 => ?_)))
    have hk2 := hk w υ2 ⟨f1.tr ho2.1, ho2.2⟩
    have ej : jn v (-38) w = if ¬ v = 0 ∧ ¬ w = 0 then 1 else 0 := by unfold jn; rw [if_neg (by decide), if_pos rfl]
    rw [ej] at hk2
    refine ⟨fun z => ?_, fun z => ⟨fun y => ?_, fun y => ?_⟩⟩
    · rw [if_neg (fun q => q.1 z)] at hk2; exact hk2
    · rw [if_neg (fun q => q.2 y)] at hk2; exact hk2
    · rw [if_pos ⟨z, y⟩] at hk2; exact hk2
theorem row_either {b : By} {n x o : Nat} {nm : Nat → Int32} (hn : n ≤ 160) {d : Nat} {f : Nat → Rs} (hf : Rok b n x o nm d 1 f) : Rok b n x o nm (d + 1) 0 (bin (opE b n) (nx b n) f) := by
  intro c ρ post hc hG h
  rw [wgR_0]
  refine hf c ρ _ hc hG (fun v τ ho => ?_)
  have hop : ∀ c s, opE b n c = some s → ¬ tk b n c = 0 ∧ ¬ tk b n c = 1 ∧ isBn s := by
    intro c s e
    unfold opE at e
    split at e
    · obtain rfl := Option.some.inj e
      exact ⟨by omega, by omega, by unfold isBn; simp⟩
    · exact absurd e (by simp)
  have key := fun (c : Nat) => (tk_keys (b := b) (n := n) (c := c))
  refine bin_R hn hop (fun post N v τ => wX12_either_5 (wgR d) post N v τ) ?_ ?_ ?_ post h v τ ho
  · intro post N c v τ g e hp
    show wX12_either_5 (wgR d) post (N + 1) v τ
    rw [wX12_either_5_s]
    refine sR_isWord (w := 423) g.2.1 g.2.2.1 (by decide) (by decide) ?_
    have t : ¬ tk b n c = 7 := fun t => by unfold opE at e; rw [if_pos t] at e; exact absurd e (by simp)
    rw [decide_eq_false (fun z => t ((key c).2.2.2.1.mpr z))]
    exact dt rfl hp
  · intro post N p v τ g hp
    show wX12_either_5 (wgR d) post (N + 1) v τ
    rw [wX12_either_5_s]
    exact sR_isWord_b g.1 _ (dt rfl hp)
  · intro post N c s v τ hc g e hk
    have t : tk b n c = 7 ∧ s = -124 := by
      unfold opE at e
      split at e
      · rename_i t
        exact ⟨t, (Option.some.inj e).symm⟩
      · exact absurd e (by simp)
    obtain ⟨t, rfl⟩ := t
    show wX12_either_5 (wgR d) post (N + 1) v τ
    rw [wX12_either_5_s]
    refine sR_isWord (w := 423) g.2.1 g.2.2.1 (by decide) (by decide) ?_
    rw [decide_eq_true ((key c).2.2.2.1.mp t)]
    refine df (by decide) (sR_nx hc g (by omega) (by omega) (fun υ f1 g1 => hf _ υ _ (nx_gt hc (by omega)).2 g1 (fun w υ2 ho2 => ?_)))
    have hk2 := hk w υ2 ⟨f1.tr ho2.1, ho2.2⟩
    have ej : jn v (-124) w = if ¬ v = 0 ∨ ¬ w = 0 then 1 else 0 := by unfold jn; rw [if_pos rfl]
    rw [ej] at hk2
    refine ⟨fun z => ?_, fun z => ⟨fun y => ?_, fun y => ?_⟩⟩
    · rw [if_pos (Or.inl z)] at hk2; exact hk2
    · rw [if_neg (fun q => by rcases q with q | q; exact q z; exact q y)] at hk2; exact hk2
    · rw [if_pos (Or.inr y)] at hk2; exact hk2
theorem Out.bad {b : By} {n x o c p : Nat} {nm : Nat → Int32} {ρ τ : St} (hF : RF ρ τ) (h : BS p o τ) (v : Int32) : Out b n x o c nm ρ (.error p) v τ := ⟨hF, h⟩
theorem row_not {b : By} {n x o r : Nat} {nm : Nat → Int32} (hr : o + r = 5) {d : Nat} (hf : Rok b n x o nm d 3 (mkA b n (opn b n r))) (h2 : 1 ≤ r → Rok b n x (o + 1) nm d 2 (mkN b n (opn b n (r - 1)))) : Rok b n x o nm (d + 1) 2 (mkN b n (opn b n r)) := by
  intro c ρ post hc hG h
  have key := fun (c : Nat) => (tk_keys (b := b) (n := n) (c := c))
  rw [wgR_2]
  unfold wX12_not
  refine sR_isWord (w := 10631) hG.2.1 hG.2.2.1 (by decide) (by decide) ?_
  by_cases t9 : tk b n c = 9
  · rw [decide_eq_true ((key c).2.2.2.2.2.1.mp t9)]
    unfold mkN at h
    simp only [if_pos t9] at h
    refine df (by decide) (sR_opens (by omega) hc hG (by omega) (by omega) (fun o5 υ f1 hb => ?_) (fun o5 υ f1 g1 => ?_))
    · have r0 : r = 0 := by omega
      subst r0
      rw [opn_0] at h
      exact dn rfl (h 0 υ ⟨f1, hb⟩)
    · obtain ⟨r', rfl⟩ : ∃ q, r = q + 1 := ⟨r - 1, by omega⟩
      rw [opn_s, if_neg (by decide), if_pos rfl] at h
      refine dm (by decide) (h2 (by omega) _ υ _ (nx_gt hc (by omega)).2 g1 (fun w υ2 ho2 => ?_))
      rintro s17 rfl
      have e42 : ∀ q : Nat, gI υ2 0 42 = nI (q + 1) → gI υ2 0 42 - 1 = nI q := fun q hq => by rw [hq, nI_pred]
      cases ef : mkN b n (opn b n r') (nx b n c) with
      | error p =>
        rw [Nat.add_sub_cancel] at ho2
        rw [ef] at ho2 h
        obtain ⟨f2, b1, b2, b3⟩ := ho2
        rw [e42 o b3]
        have hb' : BS p o (uI υ2 0 42 (nI o)) := ⟨by rw [gI_o (by omega)]; exact b1, by rw [gI_o (by omega)]; exact b2, gI_s⟩
        have fin : ∀ v, post v (uI υ2 0 42 (nI o)) := fun v => h v _ ⟨(f1.tr f2).uI (by omega), hb'⟩
        exact ⟨fun _ => fin _, fun _ => fin _⟩
      | ok r2 =>
        obtain ⟨c', L⟩ := r2
        rw [Nat.add_sub_cancel] at ho2
        rw [ef] at ho2 h
        obtain ⟨f2, q1, q2, ⟨g1', g2', g3', g4', g5'⟩, ⟨k', q4⟩, q5⟩ := ho2
        rw [e42 o g4']
        have fu : RF υ2 (uI υ2 0 42 (nI o)) := (RF.rf υ2).uI (by omega)
        have hR' : RSt b n c' (uI υ2 0 42 (nI o)) := by
          unfold RSt
          rw [gI_o (by omega), gI_o (by omega), gI_o (by omega), gJ_uI]
          exact g2'
        have hn0 := nx_gt hc (show ¬ tk b n c = 0 by omega)
        have fin : ∀ v, v = un (-33) w → post v (uI υ2 0 42 (nI o)) := fun v ev => h v _ ⟨(f1.tr f2).uI (by omega), by omega, q2, ⟨g1'.f fu, hR', by rw [gI_o (by omega)]; exact g3', gI_s, fun i hi => by rw [gI_o (by omega)]; exact g5' i hi⟩, ⟨k', Ex_u (Or.inl rfl) q4⟩, by rw [ev, val_u nm (Or.inl rfl) q4, q5]⟩
        have eu : un (-33) w = if w = 0 then 1 else 0 := by unfold un; rw [if_pos rfl]
        refine ⟨fun z => fin 0 ?_, fun z => fin 1 ?_⟩
        · rw [eu, if_neg z]
        · rw [eu, if_pos z]
  · rw [decide_eq_false (fun z => t9 ((key c).2.2.2.2.2.1.mpr z))]
    unfold mkN at h
    simp only [if_neg t9] at h
    unfold mkC at h
    refine dt rfl (hf c ρ _ hc hG (fun v τ ho => ?_))
    cases ef : mkA b n (opn b n r) c with
    | error p =>
      rw [ef] at ho
      simp only [ef] at h
      exact sR_isSign_b ho.2.1 _ (dn rfl (sR_isSign_b ho.2.1 _ (dn rfl (h v τ ho))))
    | ok r2 =>
      obtain ⟨c1, L1⟩ := r2
      rw [ef] at ho
      simp only [ef] at h
      obtain ⟨f1, q1, q2, g, ⟨k1, q4⟩, q5⟩ := ho
      have e40 : isS (tk b n c1) = true → gJ τ 0 40 = lN (tk b n c1) := by
        intro hs
        have hr := isS_r hs
        have wl := wtk_r (wv b n c1)
        rcases g.2.1.2 with ⟨t, -⟩ | ⟨t, -⟩ | ⟨t, -⟩ | ⟨-, -, e, -⟩ | ⟨t, -⟩
        · omega
        · omega
        · omega
        · exact e
        · omega
      have main : ∀ s, opC b n c1 = some s → wX12_not_69 (wgR d) post v τ := by
        intro s es
        simp only [es] at h
        have ts : (tk b n c1 = 60 ∧ s = -60) ∨ (tk b n c1 = 61 ∧ s = -61) := by
          unfold opC at es
          split at es
          · rename_i t
            exact Or.inl ⟨t, (Option.some.inj es).symm⟩
          · split at es
            · rename_i t
              exact Or.inr ⟨t, (Option.some.inj es).symm⟩
            · exact absurd es (by simp)
        have bn : isBn s := by
          rcases ts with ⟨-, rfl⟩ | ⟨-, rfl⟩ <;> (unfold isBn; simp)
        have h85 : ∀ fl : Int32, (fl = 0 ∧ s = -61) ∨ (fl = 1 ∧ s = -60) → wX12_not_85 (wgR d) post v fl τ := by
          intro fl hfl
          refine sR_nx q2 g (by omega) (by omega) (fun υ f2 g2 => hf _ υ _ (nx_gt q2 (by omega)).2 g2 (fun w υ2 ho2 => ?_))
          have fin : ∀ u : Int32, u = jn v s w → post u υ2 := by
            intro u eu
            cases eg : mkA b n (opn b n r) (nx b n c1) with
            | error p =>
              rw [eg] at ho2
              simp only [eg] at h
              exact h u υ2 ⟨(f1.tr f2).tr ho2.1, ho2.2⟩
            | ok r3 =>
              obtain ⟨c2, L2⟩ := r3
              rw [eg] at ho2
              simp only [eg] at h
              obtain ⟨f3, p1, p2, g3, ⟨k2, p4⟩, p5⟩ := ho2
              have hn0 := nx_gt q2 (show ¬ tk b n c1 = 0 by omega)
              exact h u υ2 ⟨(f1.tr f2).tr f3, by omega, p2, g3, ⟨_, Ex_b bn q4 p4⟩, by rw [eu, val_b nm bn q4 p4, q5, p5]⟩
          rcases hfl with ⟨rfl, rfl⟩ | ⟨rfl, rfl⟩
          · have ej : jn v (-61) w = if v = w then 1 else 0 := by unfold jn; rw [if_neg (by decide), if_neg (by decide), if_neg (by decide), if_pos rfl]
            refine dt rfl ⟨fun z => fin 0 ?_, fun z => fin 1 ?_⟩
            · rw [ej, if_neg z]
            · rw [ej, if_pos z]
          · have ej : jn v (-60) w = if v < w then 1 else 0 := by unfold jn; rw [if_neg (by decide), if_neg (by decide), if_pos rfl]
            refine df (by decide) ⟨fun z => fin 0 ?_, fun z => fin 1 ?_⟩
            · rw [ej, if_neg (fun q => by rw [fb_lt] at q; rw [fb_le] at z; omega)]
            · rw [ej, if_pos (by rw [fb_lt]; rw [fb_le] at z; omega)]
        unfold wX12_not_69
        rcases ts with ⟨t, e⟩ | ⟨t, e⟩
        · rw [e40 (by rw [t]; rfl), t, lg_cmp_eq]
          exact dn rfl (h85 1 (Or.inr ⟨rfl, e⟩))
        · rw [e40 (by rw [t]; rfl), t, lg_cmp_eq]
          exact dm (by decide) (h85 0 (Or.inl ⟨rfl, e⟩))
      refine sR_isSign (s := 60) g.2.1 g.2.2.1 rfl (bI_e (fun c6 => ?_) (fun c6 => main (-60) ?_))
      · refine sR_isSign (s := 61) g.2.1 g.2.2.1 rfl (bI_e (fun c7 => ?_) (fun c7 => main (-61) ?_))
        · have e : opC b n c1 = none := by
            unfold opC
            rw [if_neg (of_decide_eq_false c6), if_neg (of_decide_eq_false c7)]
          simp only [e] at h
          exact h v τ ⟨f1, q1, q2, g, ⟨k1, q4⟩, q5⟩
        · unfold opC
          rw [if_neg (of_decide_eq_false c6), if_pos (of_decide_eq_true c7)]
      · unfold opC
        rw [if_pos (of_decide_eq_true c6)]
