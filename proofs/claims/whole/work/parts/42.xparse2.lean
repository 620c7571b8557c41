/-! PURE: the class reads a text, row by row -/
theorem tk_lt (b : By) (n c : Nat) : tk b n c < 62 := by
  have w := wtk_r (wv b n c)
  unfold tk
  split
  · decide
  · split
    · split <;> decide
    · split
      · omega
      · split
        · rename_i s
          have := isS_r s
          omega
        · decide
theorem XS.tk {b : By} {n c : Nat} {τ : St} (h : XS b n c τ) (v : Nat) (hv : v < 100) : gI τ 2 3 = nI v ↔ tk b n c = v := by
  have := tk_lt b n c
  rw [h.2.2.1, nI_eq (by omega) (by omega)]
def Xok (b : By) (n T : Nat) (ids : List Nat) (o d sel : Nat) (f : Nat → Rs) : Prop := ∀ (c k : Nat) (ρ : St) (post : Int32 → St → Prop), c ≤ n → k ≤ c → GX b n T c k ρ → (∀ v τ, OutX b n T k ρ (f c) v τ → post v τ) → wgX ids d sel (nI o) ρ post
theorem sX_nx {b : By} {n T c k : Nat} {ids : List Nat} {τ : St} (hT : 20 ≤ T) (hc : c ≤ n) (hG : GX b n T c k τ) (t : ¬ tk b n c = 0) {post : St → Prop} (h : ∀ υ, XF τ υ → GX b n T (nx b n c) k υ → post υ) : wX7_next ids τ post := by
  obtain ⟨g1, g2, g3, g4⟩ := hG
  exact sX_next g1 (nx_gt hc t).2 g2.1 (fun υ f s => h υ f ⟨g1.f f, s, (f.2.2 _ _).trans g3, (f.1 _ _ (by omega)).trans g4⟩)
def addS (s : Int32) (r : Rs) : Rs := match r with
  | .error p => .error p
  | .ok (c, L) => .ok (c, L ++ [s])
def appR (M : List Int32) (r : Rs) : Rs := match r with
  | .error p => .error p
  | .ok (c, L) => .ok (c, M ++ L)
theorem OutX.b {b : By} {n T k : Nat} {ρ τ : St} {res : Rs} {v : Int32} (h : OutX b n T k ρ res v τ) : isB v := by
  cases res with
  | error p => rw [h.2.1]; exact isB_0
  | ok r =>
    obtain ⟨c, L⟩ := r
    rw [h.2.1]; exact isB_1
/-- the steps of what was read, and one more -/
theorem OutX.push {b : By} {n T k c : Nat} {ids : List Nat} (hT : okT ids T) (hn : n ≤ 160) (s : Int32) {τ υ : St} {f : Nat → Rs} (hf : Gdd n f) (hc : c ≤ n) (hk : k < c) (hR : gR τ 2 6 = some T) {w : Int32} (ho : OutX b n T k τ (f c) w υ) {post : St → Prop} (h : ∀ υ', OutX b n T k τ (addS s (f c)) w υ' → post υ') : ∃ t, gR υ 2 6 = some t ∧ okT ids t ∧ wX9_add ids t s υ post := by
  refine ⟨T, (ho.1.2.2 _ _).trans hR, hT, ?_⟩
  have hT20 := hT.2.1
  cases ef : f c with
  | error p =>
    rw [ef] at ho h
    obtain ⟨h1, h2, h3, j, h4, h5, h6⟩ := ho
    refine sX_add hT h5 h6 s (h _ ⟨h1.tr h4 (pushed_f (Nat.le_refl j)), h2, (pushed_4 hT20).trans h3, ?_⟩)
    obtain ⟨i, i1, i2, i3⟩ := pushed_1 (s := s) h5 h6
    exact ⟨i, by omega, i2, i3⟩
  | ok r =>
    obtain ⟨c', L⟩ := r
    rw [ef] at ho h
    obtain ⟨g1, g2, g3, -⟩ := hf _ _ _ hc ef
    obtain ⟨h1, h2, h3, h4⟩ := ho
    have hj : k + L.length < 160 := by omega
    obtain ⟨p1, p2⟩ := h3.push (s := s) hT20 hj
    refine sX_add hT (by omega) h3.2.2.2 s (h _ ⟨h1.tr (Nat.le_add_right _ _) (pushed_f (Nat.le_refl _)), h2, ?_, ?_⟩)
    · rw [List.length_append, List.length_singleton, ← Nat.add_assoc]
      exact p1
    · refine (h4.f hT20 (pushed_f (Nat.le_refl _)) (Nat.le_refl _)).app (fun i hi => ?_)
      rw [List.length_singleton] at hi
      have : i = 0 := by omega
      subst this
      exact p2
theorem OutX.app {b : By} {n T k c : Nat} {ρ τ υ : St} {L : List Int32} (hT : 20 ≤ T) (hF : XFt T k ρ τ) (hS : SL T k L τ) {res : Rs} {w : Int32} (ho : OutX b n T (k + L.length) τ res w υ) : OutX b n T k ρ (appR L res) w υ := by
  cases res with
  | error p =>
    obtain ⟨h1, h2, h3, j, h4, h5, h6⟩ := ho
    exact ⟨hF.tr (Nat.le_add_right _ _) h1, h2, h3, j, by omega, h5, h6⟩
  | ok r =>
    obtain ⟨c', M⟩ := r
    obtain ⟨h1, h2, h3, h4⟩ := ho
    refine ⟨hF.tr (Nat.le_add_right _ _) h1, h2, ?_, (hS.f hT h1 (Nat.le_refl _)).app h4⟩
    rw [List.length_append, ← Nat.add_assoc]
    exact h3
theorem loop_X {b : By} {n T : Nat} {ids : List Nat} (hT : okT ids T) (hn : n ≤ 160) {f : Nat → Rs} {op : Nat → Option Int32} (hf : Gdd n f) (hop : Opk b n op) (Lp : (Int32 → St → Prop) → Nat → Int32 → Int32 → St → Prop) (h_end : ∀ post N τ, post 1 τ → Lp post (N + 1) 1 (nI 160) τ) (h_no : ∀ post N c k i τ, i < 160 → GX b n T c k τ → op c = none → post 1 τ → Lp post (N + 1) 1 (nI i) τ) (h_bad : ∀ post N i τ, i ≤ 160 → post 0 τ → Lp post (N + 1) 0 (nI i) τ) (h_go : ∀ post N c k s i τ, i < 160 → c ≤ n → k ≤ c → GX b n T c k τ → op c = some s → (∀ w υ, OutX b n T k τ (addS s (f (nx b n c))) w υ → Lp post N w (nI (i + 1)) υ) → Lp post (N + 1) 1 (nI i) τ) (post : Int32 → St → Prop) : ∀ fuel i c k0 L τ ρ, fuel + i = 160 → c ≤ n → k0 + L.length ≤ c → XFt T k0 ρ τ → GX b n T c (k0 + L.length) τ → SL T k0 L τ → (∀ v τ', OutX b n T k0 ρ (bl op (nx b n) f fuel c L) v τ' → post v τ') → Lp post (fuel + 1) 1 (nI i) τ := by
  have hT20 := hT.2.1
  intro fuel
  induction fuel with
  | zero =>
    intro i c k0 L τ ρ hi hc hk hF hG hS h
    have : i = 160 := by omega
    subst this
    exact h_end post 0 τ (h 1 τ ⟨hF, rfl, hG, hS⟩)
  | succ fuel ih =>
    intro i c k0 L τ ρ hi hc hk hF hG hS h
    rw [bl_s] at h
    cases e : op c with
    | none =>
      rw [e] at h
      exact h_no post (fuel + 1) c _ i τ (by omega) hG e (h 1 τ ⟨hF, rfl, hG, hS⟩)
    | some s =>
      rw [e] at h
      obtain ⟨t0, hs⟩ := hop c s e
      have hnx := nx_gt hc t0
      refine h_go post (fuel + 1) c _ s i τ (by omega) hc hk hG e (fun w υ ho => ?_)
      cases ef : f (nx b n c) with
      | error p =>
        rw [ef] at ho
        simp only [ef] at h
        obtain ⟨h1, h2, h3, j, h4, h5, h6⟩ := ho
        rw [h2]
        exact h_bad post fuel (i + 1) υ (by omega) (h 0 υ ⟨hF.tr (Nat.le_add_right _ _) h1, rfl, h3, j, by omega, h5, h6⟩)
      | ok r =>
        obtain ⟨c', L'⟩ := r
        rw [ef] at ho
        simp only [ef] at h
        obtain ⟨h1, h2, h3, h4⟩ := ho
        obtain ⟨g1, g2, g3, -⟩ := hf _ _ _ hnx.2 ef
        rw [h2]
        have el : (L ++ (L' ++ [s])).length = L.length + (L'.length + 1) := by rw [List.length_append, List.length_append, List.length_singleton]
        rw [List.append_assoc] at h
        refine ih (i + 1) c' k0 (L ++ (L' ++ [s])) υ ρ (by omega) g2 (by rw [el]; omega) (hF.tr (Nat.le_add_right _ _) h1) ?_ ((hS.f hT20 h1 (Nat.le_refl _)).app h4) h
        rw [List.length_append, ← Nat.add_assoc]
        exact h3
theorem bin_X {b : By} {n T : Nat} {ids : List Nat} (hT : okT ids T) (hn : n ≤ 160) {f : Nat → Rs} {op : Nat → Option Int32} (hf : Gdd n f) (hop : Opk b n op) (Lp : (Int32 → St → Prop) → Nat → Int32 → Int32 → St → Prop) (h_end : ∀ post N τ, post 1 τ → Lp post (N + 1) 1 (nI 160) τ) (h_no : ∀ post N c k i τ, i < 160 → GX b n T c k τ → op c = none → post 1 τ → Lp post (N + 1) 1 (nI i) τ) (h_bad : ∀ post N i τ, i ≤ 160 → post 0 τ → Lp post (N + 1) 0 (nI i) τ) (h_go : ∀ post N c k s i τ, i < 160 → c ≤ n → k ≤ c → GX b n T c k τ → op c = some s → (∀ w υ, OutX b n T k τ (addS s (f (nx b n c))) w υ → Lp post N w (nI (i + 1)) υ) → Lp post (N + 1) 1 (nI i) τ) {c k : Nat} {ρ : St} (hc : c ≤ n) (hk : k ≤ c) (post : Int32 → St → Prop) (h : ∀ v τ, OutX b n T k ρ (bin op (nx b n) f c) v τ → post v τ) (v : Int32) (τ : St) (ho : OutX b n T k ρ (f c) v τ) : ∃ N, Lp post N v 0 τ := by
  cases ef : f c with
  | error p =>
    rw [ef] at ho
    rw [bin_e ef] at h
    obtain ⟨h1, h2, h3⟩ := ho
    rw [h2]
    exact ⟨1, h_bad post 0 0 τ (by omega) (h 0 τ ⟨h1, rfl, h3⟩)⟩
  | ok r =>
    obtain ⟨c', L⟩ := r
    rw [ef] at ho
    rw [bin_o ef] at h
    obtain ⟨g1, g2, g3, -⟩ := hf _ _ _ hc ef
    obtain ⟨h1, h2, h3, h4⟩ := ho
    rw [h2]
    exact ⟨161, loop_X hT hn hf hop Lp h_end h_no h_bad h_go post 160 0 c' k L τ ρ rfl g2 (by omega) h1 h3 h4 h⟩
theorem rowX_E {b : By} {n T : Nat} {ids : List Nat} {o d : Nat} (hT : okT ids T) (hn : n ≤ 160) {f : Nat → Rs} (hg : Gdd n f) (hf : Xok b n T ids o d 1 f) : Xok b n T ids o (d + 1) 0 (bin (opE b n) (nx b n) f) := by
  have hT20 := hT.2.1
  intro c k ρ post hc hk hG h
  rw [wgX_0]
  refine hf c k ρ _ hc hk hG (fun v τ ho => ?_)
  refine bin_X hT hn hg (opk_E b n) (fun post N v i τ => wX7_readEither_8 (wgX ids d) ids post (nI o) N v i τ) ?_ ?_ ?_ ?_ hc hk post h v τ ho
  · intro post N τ hp
    show wX7_readEither_8 (wgX ids d) ids post (nI o) (N + 1) 1 (nI 160) τ
    rw [wX7_readEither_8_s]
    exact dt (by decide) ⟨isB_1, hp⟩
  · intro post N c k i τ hi g e hp
    show wX7_readEither_8 (wgX ids d) ids post (nI o) (N + 1) 1 (nI i) τ
    rw [wX7_readEither_8_s]
    have t : ¬ tk b n c = 7 := fun t => by unfold opE at e; rw [if_pos t] at e; exact absurd e (by simp)
    have e1 : ((160 : Int32) ≤ nI i) ↔ 160 ≤ i := nI_leI (a := 160) (by omega) (by omega)
    have e2 : gI τ 2 3 = (7 : Int32) ↔ tk b n c = 7 := g.2.1.tk 7 (by omega)
    rw [e1, e2]
    exact df (by omega) (df (by decide) (dm t ⟨isB_1, hp⟩))
  · intro post N i τ hi hp
    show wX7_readEither_8 (wgX ids d) ids post (nI o) (N + 1) 0 (nI i) τ
    rw [wX7_readEither_8_s]
    exact ⟨fun _ => ⟨isB_0, hp⟩, fun _ => dt rfl ⟨isB_0, hp⟩⟩
  · intro post N c k s i τ hi hc hk g e kk
    obtain ⟨t, rfl⟩ := op_E e
    show wX7_readEither_8 (wgX ids d) ids post (nI o) (N + 1) 1 (nI i) τ
    rw [wX7_readEither_8_s]
    have e1 : ((160 : Int32) ≤ nI i) ↔ 160 ≤ i := nI_leI (a := 160) (by omega) (by omega)
    have e2 : gI τ 2 3 = (7 : Int32) ↔ tk b n c = 7 := g.2.1.tk 7 (by omega)
    rw [e1, e2]
    have hnx := nx_gt hc (show ¬ tk b n c = 0 by omega)
    refine df (by omega) (df (by decide) (dn t (sX_nx hT20 hc g (by omega) (fun υ f1 g1 => hf _ _ υ _ hnx.2 (by omega) g1 (fun w υ2 ho2 => ?_)))))
    have ho3 : OutX b n T k τ (f (nx b n c)) w υ2 := ⟨(f1.t (T := T) (k := k)).tr (Nat.le_refl k) ho2.1, ho2.2⟩
    refine ho3.push hT hn (-124) hg hnx.2 (by omega) g.2.2.1 (fun υ' h3 => ?_)
    rintro _ rfl
    rw [nI_1]
    exact kk w υ' h3
theorem rowX_B {b : By} {n T : Nat} {ids : List Nat} {o d : Nat} (hT : okT ids T) (hn : n ≤ 160) {f : Nat → Rs} (hg : Gdd n f) (hf : Xok b n T ids o d 2 f) : Xok b n T ids o (d + 1) 1 (bin (opB b n) (nx b n) f) := by
  have hT20 := hT.2.1
  intro c k ρ post hc hk hG h
  rw [wgX_1]
  refine hf c k ρ _ hc hk hG (fun v τ ho => ?_)
  refine bin_X hT hn hg (opk_B b n) (fun post N v i τ => wX7_readBoth_8 (wgX ids d) ids post (nI o) N v i τ) ?_ ?_ ?_ ?_ hc hk post h v τ ho
  · intro post N τ hp
    show wX7_readBoth_8 (wgX ids d) ids post (nI o) (N + 1) 1 (nI 160) τ
    rw [wX7_readBoth_8_s]
    exact dt (by decide) ⟨isB_1, hp⟩
  · intro post N c k i τ hi g e hp
    show wX7_readBoth_8 (wgX ids d) ids post (nI o) (N + 1) 1 (nI i) τ
    rw [wX7_readBoth_8_s]
    have t : ¬ tk b n c = 8 := fun t => by unfold opB at e; rw [if_pos t] at e; exact absurd e (by simp)
    have e1 : ((160 : Int32) ≤ nI i) ↔ 160 ≤ i := nI_leI (a := 160) (by omega) (by omega)
    have e2 : gI τ 2 3 = (8 : Int32) ↔ tk b n c = 8 := g.2.1.tk 8 (by omega)
    rw [e1, e2]
    exact df (by omega) (df (by decide) (dm t ⟨isB_1, hp⟩))
  · intro post N i τ hi hp
    show wX7_readBoth_8 (wgX ids d) ids post (nI o) (N + 1) 0 (nI i) τ
    rw [wX7_readBoth_8_s]
    exact ⟨fun _ => ⟨isB_0, hp⟩, fun _ => dt rfl ⟨isB_0, hp⟩⟩
  · intro post N c k s i τ hi hc hk g e kk
    obtain ⟨t, rfl⟩ := op_B e
    show wX7_readBoth_8 (wgX ids d) ids post (nI o) (N + 1) 1 (nI i) τ
    rw [wX7_readBoth_8_s]
    have e1 : ((160 : Int32) ≤ nI i) ↔ 160 ≤ i := nI_leI (a := 160) (by omega) (by omega)
    have e2 : gI τ 2 3 = (8 : Int32) ↔ tk b n c = 8 := g.2.1.tk 8 (by omega)
    rw [e1, e2]
    have hnx := nx_gt hc (show ¬ tk b n c = 0 by omega)
    refine df (by omega) (df (by decide) (dn t (sX_nx hT20 hc g (by omega) (fun υ f1 g1 => hf _ _ υ _ hnx.2 (by omega) g1 (fun w υ2 ho2 => ?_)))))
    have ho3 : OutX b n T k τ (f (nx b n c)) w υ2 := ⟨(f1.t (T := T) (k := k)).tr (Nat.le_refl k) ho2.1, ho2.2⟩
    refine ho3.push hT hn (-38) hg hnx.2 (by omega) g.2.2.1 (fun υ' h3 => ?_)
    rintro _ rfl
    rw [nI_1]
    exact kk w υ' h3
theorem rowX_T {b : By} {n T : Nat} {ids : List Nat} {o d : Nat} (hT : okT ids T) (hn : n ≤ 160) {f : Nat → Rs} (hg : Gdd n f) (hf : Xok b n T ids o d 6 f) : Xok b n T ids o (d + 1) 5 (bin (opT b n) (nx b n) f) := by
  have hT20 := hT.2.1
  intro c k ρ post hc hk hG h
  rw [wgX_5]
  refine hf c k ρ _ hc hk hG (fun v τ ho => ?_)
  refine bin_X hT hn hg (opk_T b n) (fun post N v i τ => wX7_readTerm_8 (wgX ids d) ids post (nI o) N v i τ) ?_ ?_ ?_ ?_ hc hk post h v τ ho
  · intro post N τ hp
    show wX7_readTerm_8 (wgX ids d) ids post (nI o) (N + 1) 1 (nI 160) τ
    rw [wX7_readTerm_8_s]
    exact dt (by decide) ⟨isB_1, hp⟩
  · intro post N c k i τ hi g e hp
    show wX7_readTerm_8 (wgX ids d) ids post (nI o) (N + 1) 1 (nI i) τ
    rw [wX7_readTerm_8_s]
    have t : ¬ tk b n c = 42 := fun t => by unfold opT at e; rw [if_pos t] at e; exact absurd e (by simp)
    have e1 : ((160 : Int32) ≤ nI i) ↔ 160 ≤ i := nI_leI (a := 160) (by omega) (by omega)
    have e2 : gI τ 2 3 = (42 : Int32) ↔ tk b n c = 42 := g.2.1.tk 42 (by omega)
    rw [e1, e2]
    exact df (by omega) (df (by decide) (dm t ⟨isB_1, hp⟩))
  · intro post N i τ hi hp
    show wX7_readTerm_8 (wgX ids d) ids post (nI o) (N + 1) 0 (nI i) τ
    rw [wX7_readTerm_8_s]
    exact ⟨fun _ => ⟨isB_0, hp⟩, fun _ => dt rfl ⟨isB_0, hp⟩⟩
  · intro post N c k s i τ hi hc hk g e kk
    obtain ⟨t, rfl⟩ := op_T e
    show wX7_readTerm_8 (wgX ids d) ids post (nI o) (N + 1) 1 (nI i) τ
    rw [wX7_readTerm_8_s]
    have e1 : ((160 : Int32) ≤ nI i) ↔ 160 ≤ i := nI_leI (a := 160) (by omega) (by omega)
    have e2 : gI τ 2 3 = (42 : Int32) ↔ tk b n c = 42 := g.2.1.tk 42 (by omega)
    rw [e1, e2]
    have hnx := nx_gt hc (show ¬ tk b n c = 0 by omega)
    refine df (by omega) (df (by decide) (dn t (sX_nx hT20 hc g (by omega) (fun υ f1 g1 => hf _ _ υ _ hnx.2 (by omega) g1 (fun w υ2 ho2 => ?_)))))
    have ho3 : OutX b n T k τ (f (nx b n c)) w υ2 := ⟨(f1.t (T := T) (k := k)).tr (Nat.le_refl k) ho2.1, ho2.2⟩
    refine ho3.push hT hn (-42) hg hnx.2 (by omega) g.2.2.1 (fun υ' h3 => ?_)
    rintro _ rfl
    rw [nI_1]
    exact kk w υ' h3
theorem rowX_A {b : By} {n T : Nat} {ids : List Nat} {o d : Nat} (hT : okT ids T) (hn : n ≤ 160) {f : Nat → Rs} (hg : Gdd n f) (hf : Xok b n T ids o d 5 f) : Xok b n T ids o (d + 1) 4 (bin (opA b n) (nx b n) f) := by
  have hT20 := hT.2.1
  intro c k ρ post hc hk hG h
  rw [wgX_4]
  refine hf c k ρ _ hc hk hG (fun v τ ho => ?_)
  refine bin_X hT hn hg (opk_A b n) (fun post N v i τ => wX7_readSum_8 (wgX ids d) ids post (nI o) N v i τ) ?_ ?_ ?_ ?_ hc hk post h v τ ho
  · intro post N τ hp
    show wX7_readSum_8 (wgX ids d) ids post (nI o) (N + 1) 1 (nI 160) τ
    rw [wX7_readSum_8_s]
    exact dt (by decide) ⟨isB_1, hp⟩
  · intro post N c k i τ hi g e hp
    show wX7_readSum_8 (wgX ids d) ids post (nI o) (N + 1) 1 (nI i) τ
    rw [wX7_readSum_8_s]
    have t1 : ¬ tk b n c = 43 := fun t => by unfold opA at e; rw [if_pos t] at e; exact absurd e (by simp)
    have t2 : ¬ tk b n c = 45 := fun t => by unfold opA at e; rw [if_neg t1, if_pos t] at e; exact absurd e (by simp)
    have e1 : ((160 : Int32) ≤ nI i) ↔ 160 ≤ i := nI_leI (a := 160) (by omega) (by omega)
    have e2 : gI τ 2 3 = (43 : Int32) ↔ tk b n c = 43 := g.2.1.tk 43 (by omega)
    have e3 : gI τ 2 3 = (45 : Int32) ↔ tk b n c = 45 := g.2.1.tk 45 (by omega)
    rw [e1, e2, e3]
    exact df (by omega) (df (by decide) (df t1 (dm t2 ⟨isB_1, hp⟩)))
  · intro post N i τ hi hp
    show wX7_readSum_8 (wgX ids d) ids post (nI o) (N + 1) 0 (nI i) τ
    rw [wX7_readSum_8_s]
    exact ⟨fun _ => ⟨isB_0, hp⟩, fun _ => dt rfl ⟨isB_0, hp⟩⟩
  · intro post N c k s i τ hi hc hk g e kk
    show wX7_readSum_8 (wgX ids d) ids post (nI o) (N + 1) 1 (nI i) τ
    rw [wX7_readSum_8_s]
    have e1 : ((160 : Int32) ≤ nI i) ↔ 160 ≤ i := nI_leI (a := 160) (by omega) (by omega)
    have e2 : gI τ 2 3 = (43 : Int32) ↔ tk b n c = 43 := g.2.1.tk 43 (by omega)
    have e3 : gI τ 2 3 = (45 : Int32) ↔ tk b n c = 45 := g.2.1.tk 45 (by omega)
    rw [e1, e2, e3]
    have t0 : ¬ tk b n c = 0 := (opk_A b n c s e).1
    have hnx := nx_gt hc t0
    have es : -(nI (tk b n c)) = s := by
      rcases op_A e with ⟨t, rfl⟩ | ⟨t, rfl⟩
      · rw [t]; rfl
      · rw [t]; rfl
    have main : wX7_readSum_37 (wgX ids d) ids (wX7_readSum_8 (wgX ids d) ids post (nI o) N) post (nI o) (nI i) τ := by
      rintro _ rfl
      refine sX_nx hT20 hc g t0 (fun υ f1 g1 => hf _ _ υ _ hnx.2 (by omega) g1 (fun w υ2 ho2 => ?_))
      have ho3 : OutX b n T k τ (f (nx b n c)) w υ2 := ⟨(f1.t (T := T) (k := k)).tr (Nat.le_refl k) ho2.1, ho2.2⟩
      rw [g.2.1.2.2.1]
      unfold wX9_addSign
      rw [es]
      refine ho3.push hT hn s hg hnx.2 (by omega) g.2.2.1 (fun υ' h3 => ?_)
      rintro _ rfl
      rw [nI_1]
      exact kk w υ' h3
    refine df (by omega) (df (by decide) ⟨fun _ => main, fun n1 => ⟨fun n2 => ?_, fun _ => main⟩⟩)
    rcases op_A e with ⟨t, -⟩ | ⟨t, -⟩
    · exact absurd t n1
    · exact absurd t n2
