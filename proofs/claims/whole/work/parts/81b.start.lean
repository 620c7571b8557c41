/-! THE START: what the constructors leave -/
def lk : List (Nat × Nat × Nat) → Nat → Nat → Option Nat
  | [], _, _ => none
  | (a, b, d) :: l, c, k => if c = a ∧ k = b then some d else lk l c k
def li : List (Nat × Nat × Int32) → Nat → Nat → Int32
  | [], _, _ => 0
  | (a, b, v) :: l, c, k => if c = a ∧ k = b then v else li l c k
theorem lk_in {l : List (Nat × Nat × Nat)} {c k d : Nat} (h : lk l c k = some d) : (c, k, d) ∈ l := by
  induction l with
  | nil => exact absurd h (by simp [lk])
  | cons a l ih =>
    obtain ⟨x, y, z⟩ := a
    unfold lk at h
    split at h
    · rename_i q
      obtain ⟨rfl, rfl⟩ := q
      obtain rfl := Option.some.inj h
      exact List.mem_cons_self
    · exact List.mem_cons_of_mem _ (ih h)
theorem lk_no {l : List (Nat × Nat × Nat)} {c : Nat} (h : ∀ e ∈ l, e.1 ≠ c) (k : Nat) : lk l c k = none := by
  cases e : lk l c k with
  | none => rfl
  | some d => exact absurd rfl (h _ (lk_in e))
theorem li_no {l : List (Nat × Nat × Int32)} {c : Nat} (h : ∀ e ∈ l, e.1 ≠ c) (k : Nat) : li l c k = 0 := by
  induction l with
  | nil => rfl
  | cons a l ih =>
    obtain ⟨x, y, z⟩ := a
    unfold li
    rw [if_neg]
    · exact ih (fun e he => h e (List.mem_cons_of_mem _ he))
    · intro q
      exact h _ List.mem_cons_self q.1.symm
/-- references by a list, ints by a list but for the cells Xs, which are as in τ -/
def SS (Xs : List Nat) (τ : St) (rl : List (Nat × Nat × Nat)) (il : List (Nat × Nat × Int32)) (σ : St) : Prop :=
  (∀ c k, gR σ c k = lk rl c k) ∧ (∀ c k, c ∉ Xs → gI σ c k = li il c k) ∧ ∀ c k, c ∈ Xs → gI σ c k = gI τ c k
theorem SS.n {Xs : List Nat} {τ : St} {rl : List (Nat × Nat × Nat)} {il : List (Nat × Nat × Int32)} {σ σ' : St} (h : SS Xs τ rl il σ) {d : Nat} (e : σ' = nC σ d) (h1 : ∀ e ∈ rl, e.1 ≠ d) (h2 : ∀ e ∈ il, e.1 ≠ d) (h3 : d ∉ Xs) : SS Xs τ rl il σ' := by
  subst e
  refine ⟨fun c k => ?_, fun c k hc => ?_, fun c k hc => ?_⟩
  · rw [gR_nC]
    split
    · rename_i q
      subst q
      exact (lk_no h1 k).symm
    · exact h.1 c k
  · rw [gI_nC]
    split
    · rename_i q
      subst q
      exact (li_no h2 k).symm
    · exact h.2.1 c k hc
  · rw [gI_nC, if_neg (fun q : c = d => h3 (q ▸ hc))]
    exact h.2.2 c k hc
theorem SS.r {Xs : List Nat} {τ : St} {rl : List (Nat × Nat × Nat)} {il : List (Nat × Nat × Int32)} {σ σ' : St} (h : SS Xs τ rl il σ) {c k d : Nat} (e : σ' = uR σ c k (some d)) : SS Xs τ ((c, k, d) :: rl) il σ' := by
  subst e
  refine ⟨fun a b => ?_, h.2.1, h.2.2⟩
  rw [gR_uR, h.1]
  rfl
theorem SS.i {Xs : List Nat} {τ : St} {rl : List (Nat × Nat × Nat)} {il : List (Nat × Nat × Int32)} {σ σ' : St} (h : SS Xs τ rl il σ) {c k : Nat} {v : Int32} (e : σ' = uI σ c k v) (hx : c ∉ Xs) : SS Xs τ rl ((c, k, v) :: il) σ' := by
  subst e
  refine ⟨h.1, fun a b ha => ?_, fun a b ha => ?_⟩
  · rw [gI_uI, h.2.1 a b ha]
    rfl
  · rw [gI_uI, if_neg (fun q : a = c ∧ b = k => hx (q.1 ▸ ha))]
    exact h.2.2 a b ha
theorem fr0 {Xs : List Nat} {τ : St} {rl : List (Nat × Nat × Nat)} {il : List (Nat × Nat × Int32)} {σ : St} (h : SS Xs τ rl il σ) {ids : List Nat} {d : Nat} (hd : ∀ e ∈ rl, e.2.2 ≠ d) : ∀ c ∈ ids, ∀ k, xR st0 σ c k ≠ some d := by
  intro c _ k e
  have e : gR σ c k = some d := e
  rw [h.1] at e
  exact hd _ (lk_in e) rfl
theorem stI_img {c k d : Nat} (h : stI c k = some d) : d = 13 ∨ (20 ≤ d ∧ d < 44) := by
  unfold stI at h
  split at h
  · rename_i q
    rcases q with rfl | rfl | q
    · unfold stX at h
      rw [if_pos (by omega)] at h
      split at h <;> (try simp at h) <;> omega
    · unfold stX at h
      rw [if_pos (by omega)] at h
      split at h <;> (try simp at h) <;> omega
    · unfold stX at h
      rw [if_neg (by omega), if_pos (by omega)] at h
      split at h
      · split at h <;> (try simp at h) <;> omega
      · simp at h
  · simp at h
theorem frI {Xs : List Nat} {τ : St} {rl : List (Nat × Nat × Nat)} {il : List (Nat × Nat × Int32)} {σ : St} (h : SS Xs τ rl il σ) {ids : List Nat} {d : Nat} (hd : ∀ e ∈ rl, e.2.2 ≠ d) (h2 : ¬ (d = 13 ∨ (20 ≤ d ∧ d < 44))) : ∀ c ∈ ids, ∀ k, xR stI σ c k ≠ some d := by
  intro c _ k e
  unfold xR at e
  split at e
  · rename_i q
    obtain rfl := Option.some.inj e
    exact h2 (stI_img q)
  · rw [h.1] at e
    exact hd _ (lk_in e) rfl
/-- standing references that are there -/
def xl (st : Nat → Nat → Option Nat) (rl : List (Nat × Nat × Nat)) (c k : Nat) : Option Nat := match st c k with
  | some d => some d
  | none => lk rl c k
theorem st_same {st st' : Nat → Nat → Option Nat} {rl : List (Nat × Nat × Nat)} {σ : St} (h : ∀ c k, gR σ c k = lk rl c k) {ids : List Nat} (N : Nat) (hi : ∀ c k, N ≤ k → st c k = none ∧ st' c k = none) (hd : ∀ c ∈ ids, ∀ k, k < N → xl st rl c k = xl st' rl c k) : ∀ c ∈ ids, ∀ k, xR st σ c k = xR st' σ c k := by
  have e : ∀ (s : Nat → Nat → Option Nat) (c k : Nat), xR s σ c k = xl s rl c k := fun s c k => by unfold xR xl; rw [h]; cases s c k <;> rfl
  intro c hc k
  rcases Nat.lt_or_ge k N with g | g
  · rw [e, e]
    exact hd c hc k g
  · have := hi c k g
    rw [e, e]
    unfold xl
    rw [this.1, this.2]
theorem stX_hk {c k : Nat} (h : 14 ≤ k) : stX c k = none := by
  unfold stX
  split
  · split
    all_goals first
      | omega
      | rfl
      | (rw [if_neg (by omega)])
  · split
    · split
      · split <;> first | omega | rfl
      · rfl
    · split
      · split
        · omega
        · rfl
      · rfl
theorem stI_hk {c k : Nat} (h : 14 ≤ k) : stI c k = none := by
  unfold stI
  split
  · exact stX_hk h
  · rfl
theorem stR_hk {c k : Nat} (h : 72 ≤ k) : stR c k = none := by
  unfold stR
  split <;> first | omega | rfl
-- the rule that is there at the start
def rbX : List Nat := [119, 101, 97, 114, 32, 108, 111, 97, 100, 32, 42, 32, 104, 111, 117, 114, 115, 32, 59, 32, 109, 105, 110, 100, 32, 53, 32, 60, 32, 119, 114, 97, 112, 32, 59, 32, 119, 97, 110, 116, 32, 115, 105, 122, 101, 32, 43, 32, 51, 32, 59]
def rbR : List Nat := [119, 101, 97, 114, 32, 108, 111, 97, 100, 32, 42, 32, 104, 111, 117, 114, 115, 32, 59, 32, 109, 105, 110, 100, 32, 53, 32, 60, 32, 119, 114, 97, 112, 32, 59, 32, 119, 97, 110, 116, 32, 115, 105, 122, 101, 32, 43, 32, 51, 32, 59, 32, 32, 32, 32, 32]
def ruX : By := fun i => rbX.getD i 0
def ruR : By := fun i => rbR.getD i 0
theorem both_ok {r1 r2 : Except Nat (List Int32 × List Int32 × List Int32)} (h : (match r1, r2 with | .ok a, .ok b => decide (a = b) | _, _ => false) = true) : ∃ L0 L1 L2, r1 = .ok (L0, L1, L2) ∧ r2 = .ok (L0, L1, L2) := by
  cases r1 with
  | error _ => simp at h
  | ok a =>
    cases r2 with
    | error _ => simp at h
    | ok b =>
      simp at h
      subst h
      exact ⟨a.1, a.2.1, a.2.2, rfl, rfl⟩
theorem rule_ok : ∃ L0 L1 L2, pAll ruX 51 = .ok (L0, L1, L2) ∧ pAll ruR 56 = .ok (L0, L1, L2) := both_ok (by decide +kernel)
def rlA : List (Nat × Nat × Nat) := [(14, 5, 40), (40, 3, 43), (40, 2, 42), (40, 0, 41), (14, 4, 36), (36, 3, 39), (36, 2, 38), (36, 0, 37), (14, 3, 32), (32, 3, 35), (32, 2, 34), (32, 0, 33), (14, 2, 28), (28, 3, 31), (28, 2, 30), (28, 0, 29), (14, 1, 24), (24, 3, 27), (24, 2, 26), (24, 0, 25), (14, 0, 20), (20, 3, 23), (20, 2, 22), (20, 0, 21), (0, 2, 14), (0, 1, 2), (2, 0, 13), (0, 0, 1), (1, 13, 12), (1, 12, 11), (1, 11, 10), (1, 10, 9), (1, 9, 8), (1, 8, 7), (1, 7, 6), (1, 6, 5), (1, 5, 4), (1, 4, 3)]
def ilA : List (Nat × Nat × Int32) := [(1, 15, 1000), (1, 14, 100)]
def idsA : List Nat := [0, 1, 3, 4, 5, 6, 7, 8, 9, 10, 11, 12, 2, 13, 14, 20, 21, 22, 23, 24, 25, 26, 27, 28, 29, 30, 31, 32, 33, 34, 35, 36, 37, 38, 39, 40, 41, 42, 43]
def rlX : List (Nat × Nat × Nat) := [(0, 8, 18), (0, 7, 17), (16, 3, 50), (50, 2, 51), (16, 2, 48), (48, 2, 49), (16, 1, 46), (46, 2, 47), (16, 0, 44), (44, 2, 45), (0, 6, 16), (0, 5, 15), (2, 6, 20), (14, 5, 40), (40, 3, 43), (40, 2, 42), (40, 0, 41), (14, 4, 36), (36, 3, 39), (36, 2, 38), (36, 0, 37), (14, 3, 32), (32, 3, 35), (32, 2, 34), (32, 0, 33), (14, 2, 28), (28, 3, 31), (28, 2, 30), (28, 0, 29), (14, 1, 24), (24, 3, 27), (24, 2, 26), (24, 0, 25), (14, 0, 20), (20, 3, 23), (20, 2, 22), (20, 0, 21), (0, 2, 14), (0, 1, 2), (2, 0, 13), (0, 0, 1), (1, 13, 12), (1, 12, 11), (1, 11, 10), (1, 10, 9), (1, 9, 8), (1, 8, 7), (1, 7, 6), (1, 6, 5), (1, 5, 4), (1, 4, 3)]
def ilX : List (Nat × Nat × Int32) := [(50, 0, -1), (48, 0, -1), (46, 0, -1), (44, 0, -1), (0, 3, 1), (1, 15, 1000), (1, 14, 100)]
def idsX0 : List Nat := [0, 1, 3, 4, 5, 6, 7, 8, 9, 10, 11, 12, 2, 13, 14, 20, 21, 22, 23, 24, 25, 26, 27, 28, 29, 30, 31, 32, 33, 34, 35, 36, 37, 38, 39, 40, 41, 42, 43, 15, 16, 44, 45, 46, 47, 48, 49, 50, 51, 17, 18]
/-- n bytes of the rule are taken -/
def TK (n : Nat) (σ : St) : Prop := (∀ c k, gR σ c k = lk rlA c k) ∧ gI σ 2 1 = nI n ∧ (∀ i, i < n → gI σ 13 i = nI (ruX i)) ∧ ∀ c k, ¬ c = 2 → ¬ c = 13 → gI σ c k = li ilA c k
theorem tkR {n : Nat} {v : Int32} {ids : List Nat} {σ : St} {post : St → Prop} (h : TK n σ) (hn : n < 51) (hv : v &&& (255 : Int32) = nI (ruX n)) (kk : ∀ σ', TK (n + 1) σ' → post σ') : wX7_take ids v σ post := by
  obtain ⟨h1, h2, h3, h4⟩ := h
  unfold wX7_take
  have e : ¬ (160 : Int32) ≤ gI σ 2 1 := by
    rw [h2]
    intro q
    have := (nI_leI (a := 160) (b := n) (by omega) (by omega)).mp q
    omega
  refine ⟨fun q => absurd q e, fun _ => ?_⟩
  rw [h2, hv]
  refine ⟨vin (by omega) (by omega), ?_⟩
  rw [nI_clamp (by omega)]
  rintro _ rfl _ rfl
  refine kk _ ⟨h1, ?_, fun i hi => ?_, fun c k c1 c2 => ?_⟩
  · rw [gI_s, gI_o (by omega), h2, nI_1]
  · rw [gI_o (by omega)]
    by_cases q : i = n
    · subst q
      exact gI_s
    · rw [gI_o (by omega)]
      exact h3 i (by omega)
  · rw [gI_o (by omega), gI_o (by omega)]
    exact h4 c k c1 c2
/-- what the class's constructor leaves -/
def FX (σ : St) : Prop := (∀ c k, gR σ c k = lk rlX c k) ∧ (∀ c k, c ∉ [2, 13, 20, 21, 22, 23] → gI σ c k = li ilX c k) ∧ gI σ 2 1 = 0 ∧ ∀ L0 L1 L2, pAll ruX 51 = .ok (L0, L1, L2) → TXt L0 L1 L2 σ 0
theorem lkA1 : lk rlA 0 1 = some 2 := by decide
theorem lkA2 : lk rlA 0 2 = some 14 := by decide
theorem lkA3 : lk rlA 14 0 = some 20 := by decide
theorem ruX_lt (i : Nat) : ruX i < 256 := by
  have h : ∀ e ∈ rbX, e < 256 := by decide
  unfold ruX
  rw [List.getD_eq_getElem?_getD]
  cases e : rbX[i]? with
  | none => decide
  | some v => exact h v (List.mem_of_getElem? e)
theorem ruR_lt (i : Nat) : ruR i < 256 := by
  have h : ∀ e ∈ rbR, e < 256 := by decide
  unfold ruR
  rw [List.getD_eq_getElem?_getD]
  cases e : rbR[i]? with
  | none => decide
  | some v => exact h v (List.mem_of_getElem? e)
theorem FX_of {σ1 τ : St} {r : Int32} (g : SS [2, 13, 20, 21, 22, 23] τ rlX ilX σ1) (h21 : gI τ 2 1 = 0) (ho : OutI ruX 51 0 r τ) : FX σ1 := by
  refine ⟨g.1, g.2.1, (g.2.2 2 1 (by decide)).trans h21, fun L0 L1 L2 e => ?_⟩
  unfold OutI at ho
  rw [e] at ho
  obtain ⟨-, t1, t2, t3, t4⟩ := ho
  refine ⟨fun i hi => ?_, ?_, ?_, ?_⟩
  · exact (g.2.2 21 i (by decide)).trans (t1 i hi)
  · exact (g.2.2 22 0 (by decide)).trans t2
  · exact (g.2.2 22 1 (by decide)).trans t3
  · exact (g.2.2 22 2 (by decide)).trans t4
theorem TK_text {σ τ : St} (h : TK 51 σ) (hx : XG 20 σ τ) (hr : gR τ 2 6 = some 20) : SS [2, 13, 20, 21, 22, 23] τ ((2, 6, 20) :: rlA) ilA τ := by
  refine ⟨fun c k => ?_, fun c k hc => ?_, fun _ _ _ => rfl⟩
  · show gR τ c k = if c = 2 ∧ k = 6 then some 20 else lk rlA c k
    split
    · rename_i q
      obtain ⟨rfl, rfl⟩ := q
      exact hr
    · rename_i q
      rw [hx.2.2 c k q]
      exact h.1 c k
  · have hc : ¬ c = 2 ∧ ¬ c = 13 ∧ ¬ c = 20 ∧ ¬ c = 21 ∧ ¬ c = 22 ∧ ¬ c = 23 := by simpa using hc
    rw [hx.1 c k (by omega)]
    exact h.2.2.2 c k hc.1 hc.2.1
set_option maxHeartbeats 4000000 in
set_option maxRecDepth 100000 in
theorem X_init {σ : St} (hR0 : ∀ c k, gR σ c k = none) (hI0 : ∀ c k, gI σ c k = 0) {post : St → List Nat → Prop} (kk : ∀ σ', FX σ' → post σ' idsX0) : wX11_init [0] σ post := by
  have h : SS [] σ [] [] σ := ⟨hR0, fun c k _ => hI0 c k, fun _ _ _ => rfl⟩
  unfold wX11_init wX6_init wX7_init wX9_init wX8_init
  refine ⟨⟨rfl, fun _ => rfl, by decide, fr0 h (by decide)⟩, fun σ1 e1 ids1 e2 => ?_⟩
  have h := h.n e1 (by decide) (by decide) (by decide)
  have e2 : ids1 = [0, 1] := e2
  subst e2
  clear e1
  refine ⟨⟨rfl, by decide, fr0 h (by decide)⟩, fun σ1 e1 ids1 e2 => ?_⟩
  have h := h.n e1 (by decide) (by decide) (by decide)
  have e2 : ids1 = [0, 1, 3] := e2
  subst e2
  clear e1
  intro σ1 e1
  have h := h.r (c := 1) (k := 4) (d := 3) e1
  clear e1
  refine ⟨⟨rfl, by decide, fr0 h (by decide)⟩, fun σ1 e1 ids1 e2 => ?_⟩
  have h := h.n e1 (by decide) (by decide) (by decide)
  have e2 : ids1 = [0, 1, 3, 4] := e2
  subst e2
  clear e1
  intro σ1 e1
  have h := h.r (c := 1) (k := 5) (d := 4) e1
  clear e1
  refine ⟨⟨rfl, by decide, fr0 h (by decide)⟩, fun σ1 e1 ids1 e2 => ?_⟩
  have h := h.n e1 (by decide) (by decide) (by decide)
  have e2 : ids1 = [0, 1, 3, 4, 5] := e2
  subst e2
  clear e1
  intro σ1 e1
  have h := h.r (c := 1) (k := 6) (d := 5) e1
  clear e1
  refine ⟨⟨rfl, by decide, fr0 h (by decide)⟩, fun σ1 e1 ids1 e2 => ?_⟩
  have h := h.n e1 (by decide) (by decide) (by decide)
  have e2 : ids1 = [0, 1, 3, 4, 5, 6] := e2
  subst e2
  clear e1
  intro σ1 e1
  have h := h.r (c := 1) (k := 7) (d := 6) e1
  clear e1
  refine ⟨⟨rfl, by decide, fr0 h (by decide)⟩, fun σ1 e1 ids1 e2 => ?_⟩
  have h := h.n e1 (by decide) (by decide) (by decide)
  have e2 : ids1 = [0, 1, 3, 4, 5, 6, 7] := e2
  subst e2
  clear e1
  intro σ1 e1
  have h := h.r (c := 1) (k := 8) (d := 7) e1
  clear e1
  refine ⟨⟨rfl, by decide, fr0 h (by decide)⟩, fun σ1 e1 ids1 e2 => ?_⟩
  have h := h.n e1 (by decide) (by decide) (by decide)
  have e2 : ids1 = [0, 1, 3, 4, 5, 6, 7, 8] := e2
  subst e2
  clear e1
  intro σ1 e1
  have h := h.r (c := 1) (k := 9) (d := 8) e1
  clear e1
  refine ⟨⟨rfl, fun _ => rfl, by decide, fr0 h (by decide)⟩, fun σ1 e1 ids1 e2 => ?_⟩
  have h := h.n e1 (by decide) (by decide) (by decide)
  have e2 : ids1 = [0, 1, 3, 4, 5, 6, 7, 8, 9] := e2
  subst e2
  clear e1
  intro σ1 e1
  have h := h.r (c := 1) (k := 10) (d := 9) e1
  clear e1
  refine ⟨⟨rfl, by decide, fr0 h (by decide)⟩, fun σ1 e1 ids1 e2 => ?_⟩
  have h := h.n e1 (by decide) (by decide) (by decide)
  have e2 : ids1 = [0, 1, 3, 4, 5, 6, 7, 8, 9, 10] := e2
  subst e2
  clear e1
  intro σ1 e1
  have h := h.r (c := 1) (k := 11) (d := 10) e1
  clear e1
  refine ⟨⟨rfl, fun _ => rfl, by decide, fr0 h (by decide)⟩, fun σ1 e1 ids1 e2 => ?_⟩
  have h := h.n e1 (by decide) (by decide) (by decide)
  have e2 : ids1 = [0, 1, 3, 4, 5, 6, 7, 8, 9, 10, 11] := e2
  subst e2
  clear e1
  intro σ1 e1
  have h := h.r (c := 1) (k := 12) (d := 11) e1
  clear e1
  refine ⟨⟨rfl, by decide, fr0 h (by decide)⟩, fun σ1 e1 ids1 e2 => ?_⟩
  have h := h.n e1 (by decide) (by decide) (by decide)
  have e2 : ids1 = [0, 1, 3, 4, 5, 6, 7, 8, 9, 10, 11, 12] := e2
  subst e2
  clear e1
  intro σ1 e1
  have h := h.r (c := 1) (k := 13) (d := 12) e1
  clear e1
  intro σ1 e1
  have h := h.i (c := 1) (k := 14) e1 (by decide)
  clear e1
  intro σ1 e1
  have h := h.i (c := 1) (k := 15) e1 (by decide)
  clear e1
  intro σ1 e1
  have h := h.r (c := 0) (k := 0) (d := 1) e1
  clear e1
  refine ⟨⟨rfl, fun _ => rfl, by decide, fr0 h (by decide)⟩, fun σ1 e1 ids1 e2 => ?_⟩
  have h := h.n e1 (by decide) (by decide) (by decide)
  have e2 : ids1 = [0, 1, 3, 4, 5, 6, 7, 8, 9, 10, 11, 12, 2] := e2
  subst e2
  clear e1
  refine ⟨⟨rfl, by decide, fr0 h (by decide)⟩, fun σ1 e1 ids1 e2 => ?_⟩
  have h := h.n e1 (by decide) (by decide) (by decide)
  have e2 : ids1 = [0, 1, 3, 4, 5, 6, 7, 8, 9, 10, 11, 12, 2, 13] := e2
  subst e2
  clear e1
  intro σ1 e1
  have h := h.r (c := 2) (k := 0) (d := 13) e1
  clear e1
  intro σ1 e1
  have h := h.r (c := 0) (k := 1) (d := 2) e1
  clear e1
  refine ⟨⟨rfl, fun _ => rfl, by decide, fr0 h (by decide)⟩, fun σ1 e1 ids1 e2 => ?_⟩
  have h := h.n e1 (by decide) (by decide) (by decide)
  have e2 : ids1 = [0, 1, 3, 4, 5, 6, 7, 8, 9, 10, 11, 12, 2, 13, 14] := e2
  subst e2
  clear e1
  intro σ1 e1
  have h := h.r (c := 0) (k := 2) (d := 14) e1
  clear e1
  refine ⟨(h.1 0 2).trans (by decide), ⟨rfl, fun _ => rfl, by decide, fr0 h (by decide), ⟨by decide, by decide, by decide, by decide⟩⟩, fun σ1 e1 ids1 e2 => ?_⟩
  have h := h.n e1 (by decide) (by decide) (by decide)
  have e2 : ids1 = [0, 1, 3, 4, 5, 6, 7, 8, 9, 10, 11, 12, 2, 13, 14, 20] := e2
  subst e2
  clear e1
  refine ⟨⟨rfl, by decide, fr0 h (by decide)⟩, fun σ1 e1 ids1 e2 => ?_⟩
  have h := h.n e1 (by decide) (by decide) (by decide)
  have e2 : ids1 = [0, 1, 3, 4, 5, 6, 7, 8, 9, 10, 11, 12, 2, 13, 14, 20, 21] := e2
  subst e2
  clear e1
  intro σ1 e1
  have h := h.r (c := 20) (k := 0) (d := 21) e1
  clear e1
  refine ⟨⟨rfl, by decide, fr0 h (by decide)⟩, fun σ1 e1 ids1 e2 => ?_⟩
  have h := h.n e1 (by decide) (by decide) (by decide)
  have e2 : ids1 = [0, 1, 3, 4, 5, 6, 7, 8, 9, 10, 11, 12, 2, 13, 14, 20, 21, 22] := e2
  subst e2
  clear e1
  intro σ1 e1
  have h := h.r (c := 20) (k := 2) (d := 22) e1
  clear e1
  refine ⟨⟨rfl, by decide, fr0 h (by decide)⟩, fun σ1 e1 ids1 e2 => ?_⟩
  have h := h.n e1 (by decide) (by decide) (by decide)
  have e2 : ids1 = [0, 1, 3, 4, 5, 6, 7, 8, 9, 10, 11, 12, 2, 13, 14, 20, 21, 22, 23] := e2
  subst e2
  clear e1
  intro σ1 e1
  have h := h.r (c := 20) (k := 3) (d := 23) e1
  clear e1
  refine ⟨vin (i := 0) (by decide) (by decide), ?_⟩
  intro σ1 e1
  have h := h.r (c := 14) (k := 0) (d := 20) e1
  clear e1
  refine ⟨(h.1 0 2).trans (by decide), ⟨rfl, fun _ => rfl, by decide, fr0 h (by decide), ⟨by decide, by decide, by decide, by decide⟩⟩, fun σ1 e1 ids1 e2 => ?_⟩
  have h := h.n e1 (by decide) (by decide) (by decide)
  have e2 : ids1 = [0, 1, 3, 4, 5, 6, 7, 8, 9, 10, 11, 12, 2, 13, 14, 20, 21, 22, 23, 24] := e2
  subst e2
  clear e1
  refine ⟨⟨rfl, by decide, fr0 h (by decide)⟩, fun σ1 e1 ids1 e2 => ?_⟩
  have h := h.n e1 (by decide) (by decide) (by decide)
  have e2 : ids1 = [0, 1, 3, 4, 5, 6, 7, 8, 9, 10, 11, 12, 2, 13, 14, 20, 21, 22, 23, 24, 25] := e2
  subst e2
  clear e1
  intro σ1 e1
  have h := h.r (c := 24) (k := 0) (d := 25) e1
  clear e1
  refine ⟨⟨rfl, by decide, fr0 h (by decide)⟩, fun σ1 e1 ids1 e2 => ?_⟩
  have h := h.n e1 (by decide) (by decide) (by decide)
  have e2 : ids1 = [0, 1, 3, 4, 5, 6, 7, 8, 9, 10, 11, 12, 2, 13, 14, 20, 21, 22, 23, 24, 25, 26] := e2
  subst e2
  clear e1
  intro σ1 e1
  have h := h.r (c := 24) (k := 2) (d := 26) e1
  clear e1
  refine ⟨⟨rfl, by decide, fr0 h (by decide)⟩, fun σ1 e1 ids1 e2 => ?_⟩
  have h := h.n e1 (by decide) (by decide) (by decide)
  have e2 : ids1 = [0, 1, 3, 4, 5, 6, 7, 8, 9, 10, 11, 12, 2, 13, 14, 20, 21, 22, 23, 24, 25, 26, 27] := e2
  subst e2
  clear e1
  intro σ1 e1
  have h := h.r (c := 24) (k := 3) (d := 27) e1
  clear e1
  refine ⟨vin (i := 1) (by decide) (by decide), ?_⟩
  intro σ1 e1
  have h := h.r (c := 14) (k := 1) (d := 24) e1
  clear e1
  refine ⟨(h.1 0 2).trans (by decide), ⟨rfl, fun _ => rfl, by decide, fr0 h (by decide), ⟨by decide, by decide, by decide, by decide⟩⟩, fun σ1 e1 ids1 e2 => ?_⟩
  have h := h.n e1 (by decide) (by decide) (by decide)
  have e2 : ids1 = [0, 1, 3, 4, 5, 6, 7, 8, 9, 10, 11, 12, 2, 13, 14, 20, 21, 22, 23, 24, 25, 26, 27, 28] := e2
  subst e2
  clear e1
  refine ⟨⟨rfl, by decide, fr0 h (by decide)⟩, fun σ1 e1 ids1 e2 => ?_⟩
  have h := h.n e1 (by decide) (by decide) (by decide)
  have e2 : ids1 = [0, 1, 3, 4, 5, 6, 7, 8, 9, 10, 11, 12, 2, 13, 14, 20, 21, 22, 23, 24, 25, 26, 27, 28, 29] := e2
  subst e2
  clear e1
  intro σ1 e1
  have h := h.r (c := 28) (k := 0) (d := 29) e1
  clear e1
  refine ⟨⟨rfl, by decide, fr0 h (by decide)⟩, fun σ1 e1 ids1 e2 => ?_⟩
  have h := h.n e1 (by decide) (by decide) (by decide)
  have e2 : ids1 = [0, 1, 3, 4, 5, 6, 7, 8, 9, 10, 11, 12, 2, 13, 14, 20, 21, 22, 23, 24, 25, 26, 27, 28, 29, 30] := e2
  subst e2
  clear e1
  intro σ1 e1
  have h := h.r (c := 28) (k := 2) (d := 30) e1
  clear e1
  refine ⟨⟨rfl, by decide, fr0 h (by decide)⟩, fun σ1 e1 ids1 e2 => ?_⟩
  have h := h.n e1 (by decide) (by decide) (by decide)
  have e2 : ids1 = [0, 1, 3, 4, 5, 6, 7, 8, 9, 10, 11, 12, 2, 13, 14, 20, 21, 22, 23, 24, 25, 26, 27, 28, 29, 30, 31] := e2
  subst e2
  clear e1
  intro σ1 e1
  have h := h.r (c := 28) (k := 3) (d := 31) e1
  clear e1
  refine ⟨vin (i := 2) (by decide) (by decide), ?_⟩
  intro σ1 e1
  have h := h.r (c := 14) (k := 2) (d := 28) e1
  clear e1
  refine ⟨(h.1 0 2).trans (by decide), ⟨rfl, fun _ => rfl, by decide, fr0 h (by decide), ⟨by decide, by decide, by decide, by decide⟩⟩, fun σ1 e1 ids1 e2 => ?_⟩
  have h := h.n e1 (by decide) (by decide) (by decide)
  have e2 : ids1 = [0, 1, 3, 4, 5, 6, 7, 8, 9, 10, 11, 12, 2, 13, 14, 20, 21, 22, 23, 24, 25, 26, 27, 28, 29, 30, 31, 32] := e2
  subst e2
  clear e1
  refine ⟨⟨rfl, by decide, fr0 h (by decide)⟩, fun σ1 e1 ids1 e2 => ?_⟩
  have h := h.n e1 (by decide) (by decide) (by decide)
  have e2 : ids1 = [0, 1, 3, 4, 5, 6, 7, 8, 9, 10, 11, 12, 2, 13, 14, 20, 21, 22, 23, 24, 25, 26, 27, 28, 29, 30, 31, 32, 33] := e2
  subst e2
  clear e1
  intro σ1 e1
  have h := h.r (c := 32) (k := 0) (d := 33) e1
  clear e1
  refine ⟨⟨rfl, by decide, fr0 h (by decide)⟩, fun σ1 e1 ids1 e2 => ?_⟩
  have h := h.n e1 (by decide) (by decide) (by decide)
  have e2 : ids1 = [0, 1, 3, 4, 5, 6, 7, 8, 9, 10, 11, 12, 2, 13, 14, 20, 21, 22, 23, 24, 25, 26, 27, 28, 29, 30, 31, 32, 33, 34] := e2
  subst e2
  clear e1
  intro σ1 e1
  have h := h.r (c := 32) (k := 2) (d := 34) e1
  clear e1
  refine ⟨⟨rfl, by decide, fr0 h (by decide)⟩, fun σ1 e1 ids1 e2 => ?_⟩
  have h := h.n e1 (by decide) (by decide) (by decide)
  have e2 : ids1 = [0, 1, 3, 4, 5, 6, 7, 8, 9, 10, 11, 12, 2, 13, 14, 20, 21, 22, 23, 24, 25, 26, 27, 28, 29, 30, 31, 32, 33, 34, 35] := e2
  subst e2
  clear e1
  intro σ1 e1
  have h := h.r (c := 32) (k := 3) (d := 35) e1
  clear e1
  refine ⟨vin (i := 3) (by decide) (by decide), ?_⟩
  intro σ1 e1
  have h := h.r (c := 14) (k := 3) (d := 32) e1
  clear e1
  refine ⟨(h.1 0 2).trans (by decide), ⟨rfl, fun _ => rfl, by decide, fr0 h (by decide), ⟨by decide, by decide, by decide, by decide⟩⟩, fun σ1 e1 ids1 e2 => ?_⟩
  have h := h.n e1 (by decide) (by decide) (by decide)
  have e2 : ids1 = [0, 1, 3, 4, 5, 6, 7, 8, 9, 10, 11, 12, 2, 13, 14, 20, 21, 22, 23, 24, 25, 26, 27, 28, 29, 30, 31, 32, 33, 34, 35, 36] := e2
  subst e2
  clear e1
  refine ⟨⟨rfl, by decide, fr0 h (by decide)⟩, fun σ1 e1 ids1 e2 => ?_⟩
  have h := h.n e1 (by decide) (by decide) (by decide)
  have e2 : ids1 = [0, 1, 3, 4, 5, 6, 7, 8, 9, 10, 11, 12, 2, 13, 14, 20, 21, 22, 23, 24, 25, 26, 27, 28, 29, 30, 31, 32, 33, 34, 35, 36, 37] := e2
  subst e2
  clear e1
  intro σ1 e1
  have h := h.r (c := 36) (k := 0) (d := 37) e1
  clear e1
  refine ⟨⟨rfl, by decide, fr0 h (by decide)⟩, fun σ1 e1 ids1 e2 => ?_⟩
  have h := h.n e1 (by decide) (by decide) (by decide)
  have e2 : ids1 = [0, 1, 3, 4, 5, 6, 7, 8, 9, 10, 11, 12, 2, 13, 14, 20, 21, 22, 23, 24, 25, 26, 27, 28, 29, 30, 31, 32, 33, 34, 35, 36, 37, 38] := e2
  subst e2
  clear e1
  intro σ1 e1
  have h := h.r (c := 36) (k := 2) (d := 38) e1
  clear e1
  refine ⟨⟨rfl, by decide, fr0 h (by decide)⟩, fun σ1 e1 ids1 e2 => ?_⟩
  have h := h.n e1 (by decide) (by decide) (by decide)
  have e2 : ids1 = [0, 1, 3, 4, 5, 6, 7, 8, 9, 10, 11, 12, 2, 13, 14, 20, 21, 22, 23, 24, 25, 26, 27, 28, 29, 30, 31, 32, 33, 34, 35, 36, 37, 38, 39] := e2
  subst e2
  clear e1
  intro σ1 e1
  have h := h.r (c := 36) (k := 3) (d := 39) e1
  clear e1
  refine ⟨vin (i := 4) (by decide) (by decide), ?_⟩
  intro σ1 e1
  have h := h.r (c := 14) (k := 4) (d := 36) e1
  clear e1
  refine ⟨(h.1 0 2).trans (by decide), ⟨rfl, fun _ => rfl, by decide, fr0 h (by decide), ⟨by decide, by decide, by decide, by decide⟩⟩, fun σ1 e1 ids1 e2 => ?_⟩
  have h := h.n e1 (by decide) (by decide) (by decide)
  have e2 : ids1 = [0, 1, 3, 4, 5, 6, 7, 8, 9, 10, 11, 12, 2, 13, 14, 20, 21, 22, 23, 24, 25, 26, 27, 28, 29, 30, 31, 32, 33, 34, 35, 36, 37, 38, 39, 40] := e2
  subst e2
  clear e1
  refine ⟨⟨rfl, by decide, fr0 h (by decide)⟩, fun σ1 e1 ids1 e2 => ?_⟩
  have h := h.n e1 (by decide) (by decide) (by decide)
  have e2 : ids1 = [0, 1, 3, 4, 5, 6, 7, 8, 9, 10, 11, 12, 2, 13, 14, 20, 21, 22, 23, 24, 25, 26, 27, 28, 29, 30, 31, 32, 33, 34, 35, 36, 37, 38, 39, 40, 41] := e2
  subst e2
  clear e1
  intro σ1 e1
  have h := h.r (c := 40) (k := 0) (d := 41) e1
  clear e1
  refine ⟨⟨rfl, by decide, fr0 h (by decide)⟩, fun σ1 e1 ids1 e2 => ?_⟩
  have h := h.n e1 (by decide) (by decide) (by decide)
  have e2 : ids1 = [0, 1, 3, 4, 5, 6, 7, 8, 9, 10, 11, 12, 2, 13, 14, 20, 21, 22, 23, 24, 25, 26, 27, 28, 29, 30, 31, 32, 33, 34, 35, 36, 37, 38, 39, 40, 41, 42] := e2
  subst e2
  clear e1
  intro σ1 e1
  have h := h.r (c := 40) (k := 2) (d := 42) e1
  clear e1
  refine ⟨⟨rfl, by decide, fr0 h (by decide)⟩, fun σ1 e1 ids1 e2 => ?_⟩
  have h := h.n e1 (by decide) (by decide) (by decide)
  have e2 : ids1 = [0, 1, 3, 4, 5, 6, 7, 8, 9, 10, 11, 12, 2, 13, 14, 20, 21, 22, 23, 24, 25, 26, 27, 28, 29, 30, 31, 32, 33, 34, 35, 36, 37, 38, 39, 40, 41, 42, 43] := e2
  subst e2
  clear e1
  intro σ1 e1
  have h := h.r (c := 40) (k := 3) (d := 43) e1
  clear e1
  refine ⟨vin (i := 5) (by decide) (by decide), ?_⟩
  intro σ1 e1
  have h := h.r (c := 14) (k := 5) (d := 40) e1
  clear e1
  refine ⟨st_same (rl := rlA) h.1 14 (fun _ _ q => ⟨stI_hk q, rfl⟩) (by decide +kernel), ?_⟩
  have h : TK 0 _ := ⟨h.1, (h.2.1 2 1 (by decide)).trans (by decide), fun i q => absurd q (Nat.not_lt_zero i), fun c k _ _ => h.2.1 c k List.not_mem_nil⟩
  refine ⟨(h.1 0 1).trans lkA1, fun c q => ?_, fun c q => funext fun k => if_pos q, ?_⟩
  · rcases q with rfl | rfl | ⟨q1, q2⟩
    · decide
    · decide
    · have key : ∀ c, c < 44 → 20 ≤ c → c ∈ [0, 1, 3, 4, 5, 6, 7, 8, 9, 10, 11, 12, 2, 13, 14, 20, 21, 22, 23, 24, 25, 26, 27, 28, 29, 30, 31, 32, 33, 34, 35, 36, 37, 38, 39, 40, 41, 42, 43] := by decide
      exact key c q2 q1
  refine tkR (n := 0) h (by decide) (by decide) (fun σ1 h => ?_)
  refine ⟨(h.1 0 1).trans lkA1, ?_⟩
  refine tkR (n := 1) h (by decide) (by decide) (fun σ1 h => ?_)
  refine ⟨(h.1 0 1).trans lkA1, ?_⟩
  refine tkR (n := 2) h (by decide) (by decide) (fun σ1 h => ?_)
  refine ⟨(h.1 0 1).trans lkA1, ?_⟩
  refine tkR (n := 3) h (by decide) (by decide) (fun σ1 h => ?_)
  refine ⟨(h.1 0 1).trans lkA1, ?_⟩
  refine tkR (n := 4) h (by decide) (by decide) (fun σ1 h => ?_)
  refine ⟨(h.1 0 1).trans lkA1, ?_⟩
  refine tkR (n := 5) h (by decide) (by decide) (fun σ1 h => ?_)
  refine ⟨(h.1 0 1).trans lkA1, ?_⟩
  refine tkR (n := 6) h (by decide) (by decide) (fun σ1 h => ?_)
  refine ⟨(h.1 0 1).trans lkA1, ?_⟩
  refine tkR (n := 7) h (by decide) (by decide) (fun σ1 h => ?_)
  refine ⟨(h.1 0 1).trans lkA1, ?_⟩
  refine tkR (n := 8) h (by decide) (by decide) (fun σ1 h => ?_)
  refine ⟨(h.1 0 1).trans lkA1, ?_⟩
  refine tkR (n := 9) h (by decide) (by decide) (fun σ1 h => ?_)
  refine ⟨(h.1 0 1).trans lkA1, ?_⟩
  refine tkR (n := 10) h (by decide) (by decide) (fun σ1 h => ?_)
  refine ⟨(h.1 0 1).trans lkA1, ?_⟩
  refine tkR (n := 11) h (by decide) (by decide) (fun σ1 h => ?_)
  refine ⟨(h.1 0 1).trans lkA1, ?_⟩
  refine tkR (n := 12) h (by decide) (by decide) (fun σ1 h => ?_)
  refine ⟨(h.1 0 1).trans lkA1, ?_⟩
  refine tkR (n := 13) h (by decide) (by decide) (fun σ1 h => ?_)
  refine ⟨(h.1 0 1).trans lkA1, ?_⟩
  refine tkR (n := 14) h (by decide) (by decide) (fun σ1 h => ?_)
  refine ⟨(h.1 0 1).trans lkA1, ?_⟩
  refine tkR (n := 15) h (by decide) (by decide) (fun σ1 h => ?_)
  refine ⟨(h.1 0 1).trans lkA1, ?_⟩
  refine tkR (n := 16) h (by decide) (by decide) (fun σ1 h => ?_)
  refine ⟨(h.1 0 1).trans lkA1, ?_⟩
  refine tkR (n := 17) h (by decide) (by decide) (fun σ1 h => ?_)
  refine ⟨(h.1 0 1).trans lkA1, ?_⟩
  refine tkR (n := 18) h (by decide) (by decide) (fun σ1 h => ?_)
  refine ⟨(h.1 0 1).trans lkA1, ?_⟩
  refine tkR (n := 19) h (by decide) (by decide) (fun σ1 h => ?_)
  refine ⟨(h.1 0 1).trans lkA1, ?_⟩
  refine tkR (n := 20) h (by decide) (by decide) (fun σ1 h => ?_)
  refine ⟨(h.1 0 1).trans lkA1, ?_⟩
  refine tkR (n := 21) h (by decide) (by decide) (fun σ1 h => ?_)
  refine ⟨(h.1 0 1).trans lkA1, ?_⟩
  refine tkR (n := 22) h (by decide) (by decide) (fun σ1 h => ?_)
  refine ⟨(h.1 0 1).trans lkA1, ?_⟩
  refine tkR (n := 23) h (by decide) (by decide) (fun σ1 h => ?_)
  refine ⟨(h.1 0 1).trans lkA1, ?_⟩
  refine tkR (n := 24) h (by decide) (by decide) (fun σ1 h => ?_)
  refine ⟨(h.1 0 1).trans lkA1, ?_⟩
  refine tkR (n := 25) h (by decide) (by decide) (fun σ1 h => ?_)
  refine ⟨(h.1 0 1).trans lkA1, ?_⟩
  refine tkR (n := 26) h (by decide) (by decide) (fun σ1 h => ?_)
  refine ⟨(h.1 0 1).trans lkA1, ?_⟩
  refine tkR (n := 27) h (by decide) (by decide) (fun σ1 h => ?_)
  refine ⟨(h.1 0 1).trans lkA1, ?_⟩
  refine tkR (n := 28) h (by decide) (by decide) (fun σ1 h => ?_)
  refine ⟨(h.1 0 1).trans lkA1, ?_⟩
  refine tkR (n := 29) h (by decide) (by decide) (fun σ1 h => ?_)
  refine ⟨(h.1 0 1).trans lkA1, ?_⟩
  refine tkR (n := 30) h (by decide) (by decide) (fun σ1 h => ?_)
  refine ⟨(h.1 0 1).trans lkA1, ?_⟩
  refine tkR (n := 31) h (by decide) (by decide) (fun σ1 h => ?_)
  refine ⟨(h.1 0 1).trans lkA1, ?_⟩
  refine tkR (n := 32) h (by decide) (by decide) (fun σ1 h => ?_)
  refine ⟨(h.1 0 1).trans lkA1, ?_⟩
  refine tkR (n := 33) h (by decide) (by decide) (fun σ1 h => ?_)
  refine ⟨(h.1 0 1).trans lkA1, ?_⟩
  refine tkR (n := 34) h (by decide) (by decide) (fun σ1 h => ?_)
  refine ⟨(h.1 0 1).trans lkA1, ?_⟩
  refine tkR (n := 35) h (by decide) (by decide) (fun σ1 h => ?_)
  refine ⟨(h.1 0 1).trans lkA1, ?_⟩
  refine tkR (n := 36) h (by decide) (by decide) (fun σ1 h => ?_)
  refine ⟨(h.1 0 1).trans lkA1, ?_⟩
  refine tkR (n := 37) h (by decide) (by decide) (fun σ1 h => ?_)
  refine ⟨(h.1 0 1).trans lkA1, ?_⟩
  refine tkR (n := 38) h (by decide) (by decide) (fun σ1 h => ?_)
  refine ⟨(h.1 0 1).trans lkA1, ?_⟩
  refine tkR (n := 39) h (by decide) (by decide) (fun σ1 h => ?_)
  refine ⟨(h.1 0 1).trans lkA1, ?_⟩
  refine tkR (n := 40) h (by decide) (by decide) (fun σ1 h => ?_)
  refine ⟨(h.1 0 1).trans lkA1, ?_⟩
  refine tkR (n := 41) h (by decide) (by decide) (fun σ1 h => ?_)
  refine ⟨(h.1 0 1).trans lkA1, ?_⟩
  refine tkR (n := 42) h (by decide) (by decide) (fun σ1 h => ?_)
  refine ⟨(h.1 0 1).trans lkA1, ?_⟩
  refine tkR (n := 43) h (by decide) (by decide) (fun σ1 h => ?_)
  refine ⟨(h.1 0 1).trans lkA1, ?_⟩
  refine tkR (n := 44) h (by decide) (by decide) (fun σ1 h => ?_)
  refine ⟨(h.1 0 1).trans lkA1, ?_⟩
  refine tkR (n := 45) h (by decide) (by decide) (fun σ1 h => ?_)
  refine ⟨(h.1 0 1).trans lkA1, ?_⟩
  refine tkR (n := 46) h (by decide) (by decide) (fun σ1 h => ?_)
  refine ⟨(h.1 0 1).trans lkA1, ?_⟩
  refine tkR (n := 47) h (by decide) (by decide) (fun σ1 h => ?_)
  refine ⟨(h.1 0 1).trans lkA1, ?_⟩
  refine tkR (n := 48) h (by decide) (by decide) (fun σ1 h => ?_)
  refine ⟨(h.1 0 1).trans lkA1, ?_⟩
  refine tkR (n := 49) h (by decide) (by decide) (fun σ1 h => ?_)
  refine ⟨(h.1 0 1).trans lkA1, ?_⟩
  refine tkR (n := 50) h (by decide) (by decide) (fun σ1 h => ?_)
  refine ⟨(h.1 0 1).trans lkA1, (h.1 0 2).trans lkA2, 20, (h.1 14 0).trans lkA3, ⟨by decide, by decide, by decide, by decide⟩, ?_⟩
  refine sX_readInto (t := 0) (b := ruX) (n := 51) ⟨by decide, by decide, by decide, by decide⟩ ⟨by decide, h.2.1, fun i hi => ⟨ruX_lt i, h.2.2.1 i hi⟩⟩ (fun r τ hx hr h21 ho => ?_)
  have h := TK_text h hx hr
  have hk : ∀ σ1, SS [2, 13, 20, 21, 22, 23] τ rlX ilX σ1 → post σ1 idsX0 := fun σ1 g => kk σ1 (FX_of g h21 ho)
  intro σ1 e1
  have h := h.i (c := 0) (k := 3) e1 (by decide)
  clear e1
  refine ⟨⟨rfl, by decide, frI h (by decide) (by decide)⟩, fun σ1 e1 ids1 e2 => ?_⟩
  have h := h.n e1 (by decide) (by decide) (by decide)
  have e2 : ids1 = [0, 1, 3, 4, 5, 6, 7, 8, 9, 10, 11, 12, 2, 13, 14, 20, 21, 22, 23, 24, 25, 26, 27, 28, 29, 30, 31, 32, 33, 34, 35, 36, 37, 38, 39, 40, 41, 42, 43, 15] := e2
  subst e2
  clear e1
  intro σ1 e1
  have h := h.r (c := 0) (k := 5) (d := 15) e1
  clear e1
  refine ⟨⟨rfl, fun _ => if_neg (by decide), by decide, frI h (by decide) (by decide)⟩, fun σ1 e1 ids1 e2 => ?_⟩
  have h := h.n e1 (by decide) (by decide) (by decide)
  have e2 : ids1 = [0, 1, 3, 4, 5, 6, 7, 8, 9, 10, 11, 12, 2, 13, 14, 20, 21, 22, 23, 24, 25, 26, 27, 28, 29, 30, 31, 32, 33, 34, 35, 36, 37, 38, 39, 40, 41, 42, 43, 15, 16] := e2
  subst e2
  clear e1
  intro σ1 e1
  have h := h.r (c := 0) (k := 6) (d := 16) e1
  clear e1
  refine ⟨(h.1 0 6).trans (by decide), ⟨rfl, fun _ => if_neg (by decide), by decide, frI h (by decide) (by decide), ⟨by decide, by decide, by decide, by decide⟩⟩, fun σ1 e1 ids1 e2 => ?_⟩
  have h := h.n e1 (by decide) (by decide) (by decide)
  have e2 : ids1 = [0, 1, 3, 4, 5, 6, 7, 8, 9, 10, 11, 12, 2, 13, 14, 20, 21, 22, 23, 24, 25, 26, 27, 28, 29, 30, 31, 32, 33, 34, 35, 36, 37, 38, 39, 40, 41, 42, 43, 15, 16, 44] := e2
  subst e2
  clear e1
  intro σ1 e1
  have h := h.i (c := 44) (k := 0) e1 (by decide)
  clear e1
  refine ⟨⟨rfl, by decide, frI h (by decide) (by decide)⟩, fun σ1 e1 ids1 e2 => ?_⟩
  have h := h.n e1 (by decide) (by decide) (by decide)
  have e2 : ids1 = [0, 1, 3, 4, 5, 6, 7, 8, 9, 10, 11, 12, 2, 13, 14, 20, 21, 22, 23, 24, 25, 26, 27, 28, 29, 30, 31, 32, 33, 34, 35, 36, 37, 38, 39, 40, 41, 42, 43, 15, 16, 44, 45] := e2
  subst e2
  clear e1
  intro σ1 e1
  have h := h.r (c := 44) (k := 2) (d := 45) e1
  clear e1
  refine ⟨vin (i := 0) (by decide) (by decide), ?_⟩
  intro σ1 e1
  have h := h.r (c := 16) (k := 0) (d := 44) e1
  clear e1
  refine ⟨(h.1 0 6).trans (by decide), ⟨rfl, fun _ => if_neg (by decide), by decide, frI h (by decide) (by decide), ⟨by decide, by decide, by decide, by decide⟩⟩, fun σ1 e1 ids1 e2 => ?_⟩
  have h := h.n e1 (by decide) (by decide) (by decide)
  have e2 : ids1 = [0, 1, 3, 4, 5, 6, 7, 8, 9, 10, 11, 12, 2, 13, 14, 20, 21, 22, 23, 24, 25, 26, 27, 28, 29, 30, 31, 32, 33, 34, 35, 36, 37, 38, 39, 40, 41, 42, 43, 15, 16, 44, 45, 46] := e2
  subst e2
  clear e1
  intro σ1 e1
  have h := h.i (c := 46) (k := 0) e1 (by decide)
  clear e1
  refine ⟨⟨rfl, by decide, frI h (by decide) (by decide)⟩, fun σ1 e1 ids1 e2 => ?_⟩
  have h := h.n e1 (by decide) (by decide) (by decide)
  have e2 : ids1 = [0, 1, 3, 4, 5, 6, 7, 8, 9, 10, 11, 12, 2, 13, 14, 20, 21, 22, 23, 24, 25, 26, 27, 28, 29, 30, 31, 32, 33, 34, 35, 36, 37, 38, 39, 40, 41, 42, 43, 15, 16, 44, 45, 46, 47] := e2
  subst e2
  clear e1
  intro σ1 e1
  have h := h.r (c := 46) (k := 2) (d := 47) e1
  clear e1
  refine ⟨vin (i := 1) (by decide) (by decide), ?_⟩
  intro σ1 e1
  have h := h.r (c := 16) (k := 1) (d := 46) e1
  clear e1
  refine ⟨(h.1 0 6).trans (by decide), ⟨rfl, fun _ => if_neg (by decide), by decide, frI h (by decide) (by decide), ⟨by decide, by decide, by decide, by decide⟩⟩, fun σ1 e1 ids1 e2 => ?_⟩
  have h := h.n e1 (by decide) (by decide) (by decide)
  have e2 : ids1 = [0, 1, 3, 4, 5, 6, 7, 8, 9, 10, 11, 12, 2, 13, 14, 20, 21, 22, 23, 24, 25, 26, 27, 28, 29, 30, 31, 32, 33, 34, 35, 36, 37, 38, 39, 40, 41, 42, 43, 15, 16, 44, 45, 46, 47, 48] := e2
  subst e2
  clear e1
  intro σ1 e1
  have h := h.i (c := 48) (k := 0) e1 (by decide)
  clear e1
  refine ⟨⟨rfl, by decide, frI h (by decide) (by decide)⟩, fun σ1 e1 ids1 e2 => ?_⟩
  have h := h.n e1 (by decide) (by decide) (by decide)
  have e2 : ids1 = [0, 1, 3, 4, 5, 6, 7, 8, 9, 10, 11, 12, 2, 13, 14, 20, 21, 22, 23, 24, 25, 26, 27, 28, 29, 30, 31, 32, 33, 34, 35, 36, 37, 38, 39, 40, 41, 42, 43, 15, 16, 44, 45, 46, 47, 48, 49] := e2
  subst e2
  clear e1
  intro σ1 e1
  have h := h.r (c := 48) (k := 2) (d := 49) e1
  clear e1
  refine ⟨vin (i := 2) (by decide) (by decide), ?_⟩
  intro σ1 e1
  have h := h.r (c := 16) (k := 2) (d := 48) e1
  clear e1
  refine ⟨(h.1 0 6).trans (by decide), ⟨rfl, fun _ => if_neg (by decide), by decide, frI h (by decide) (by decide), ⟨by decide, by decide, by decide, by decide⟩⟩, fun σ1 e1 ids1 e2 => ?_⟩
  have h := h.n e1 (by decide) (by decide) (by decide)
  have e2 : ids1 = [0, 1, 3, 4, 5, 6, 7, 8, 9, 10, 11, 12, 2, 13, 14, 20, 21, 22, 23, 24, 25, 26, 27, 28, 29, 30, 31, 32, 33, 34, 35, 36, 37, 38, 39, 40, 41, 42, 43, 15, 16, 44, 45, 46, 47, 48, 49, 50] := e2
  subst e2
  clear e1
  intro σ1 e1
  have h := h.i (c := 50) (k := 0) e1 (by decide)
  clear e1
  refine ⟨⟨rfl, by decide, frI h (by decide) (by decide)⟩, fun σ1 e1 ids1 e2 => ?_⟩
  have h := h.n e1 (by decide) (by decide) (by decide)
  have e2 : ids1 = [0, 1, 3, 4, 5, 6, 7, 8, 9, 10, 11, 12, 2, 13, 14, 20, 21, 22, 23, 24, 25, 26, 27, 28, 29, 30, 31, 32, 33, 34, 35, 36, 37, 38, 39, 40, 41, 42, 43, 15, 16, 44, 45, 46, 47, 48, 49, 50, 51] := e2
  subst e2
  clear e1
  intro σ1 e1
  have h := h.r (c := 50) (k := 2) (d := 51) e1
  clear e1
  refine ⟨vin (i := 3) (by decide) (by decide), ?_⟩
  intro σ1 e1
  have h := h.r (c := 16) (k := 3) (d := 50) e1
  clear e1
  refine ⟨⟨rfl, by decide, frI h (by decide) (by decide)⟩, fun σ1 e1 ids1 e2 => ?_⟩
  have h := h.n e1 (by decide) (by decide) (by decide)
  have e2 : ids1 = [0, 1, 3, 4, 5, 6, 7, 8, 9, 10, 11, 12, 2, 13, 14, 20, 21, 22, 23, 24, 25, 26, 27, 28, 29, 30, 31, 32, 33, 34, 35, 36, 37, 38, 39, 40, 41, 42, 43, 15, 16, 44, 45, 46, 47, 48, 49, 50, 51, 17] := e2
  subst e2
  clear e1
  intro σ1 e1
  have h := h.r (c := 0) (k := 7) (d := 17) e1
  clear e1
  refine ⟨⟨rfl, by decide, frI h (by decide) (by decide)⟩, fun σ1 e1 ids1 e2 => ?_⟩
  have h := h.n e1 (by decide) (by decide) (by decide)
  have e2 : ids1 = [0, 1, 3, 4, 5, 6, 7, 8, 9, 10, 11, 12, 2, 13, 14, 20, 21, 22, 23, 24, 25, 26, 27, 28, 29, 30, 31, 32, 33, 34, 35, 36, 37, 38, 39, 40, 41, 42, 43, 15, 16, 44, 45, 46, 47, 48, 49, 50, 51, 17, 18] := e2
  subst e2
  clear e1
  intro σ1 e1
  have h := h.r (c := 0) (k := 8) (d := 18) e1
  clear e1
  exact hk _ h
def rlR : List (Nat × Nat × Nat) := [(0, 70, 34), (0, 69, 33), (0, 68, 32), (0, 67, 31), (0, 60, 30), (0, 59, 29), (0, 58, 28), (0, 57, 27), (0, 56, 26), (0, 55, 25), (0, 52, 24), (0, 51, 23), (0, 33, 22), (0, 32, 21), (0, 31, 20), (0, 27, 19), (0, 26, 18), (0, 25, 17), (0, 24, 16), (0, 23, 15), (0, 22, 14), (0, 21, 13), (0, 19, 12), (0, 17, 11), (0, 16, 10), (0, 15, 9), (0, 14, 8), (0, 13, 7), (0, 12, 6), (0, 8, 5), (0, 7, 4), (0, 5, 3), (0, 2, 2), (0, 1, 1)]
def ilR : List (Nat × Nat × Int32) := [(0, 34, -1), (0, 29, -1)]
def ilF : List (Nat × Nat × Int32) := [(0, 11, 1000), (0, 10, 100), (0, 3, 1), (2, 0, 56), (0, 34, -1), (0, 29, -1)]
def SP (n : Nat) (σ : St) : Prop := (∀ c k, gR σ c k = lk rlR c k) ∧ (∀ c k, ¬ c = 1 → gI σ c k = li ilR c k) ∧ ∀ i, i < n → gI σ 1 i = nI (ruR i)
theorem spl {a : Int32} {x : Int64} {n : Nat} {σ : St} {post : St → Prop} (h : SP n σ) (hn : n + 8 ≤ 56) (ha : a = nI n) (hw : ∀ i, i < 8 → ((x >>> (((56 : Int32) - ((8 : Int32) * nI i)).toInt64 &&& 63)) &&& (255 : Int64)).toInt32 = nI (ruR (n + i))) (kk : ∀ σ', SP (n + 8) σ' → post σ') : wX12_spell a x σ post := by
  subst ha
  unfold wX12_spell
  refine lpc1 (fun N v τ => wX12_spell_3 post (nI n) x N v τ) 8 (by decide) (fun i τ => SP (n + i) τ) (fun N τ g => ?_) (fun N i τ hi g k1 => ?_) σ h
  · show wX12_spell_3 post (nI n) x (N + 1) (nI 8) τ
    rw [wX12_spell_3_s]
    exact ⟨fun _ => kk τ g, fun q => absurd (show (8 : Int32) ≤ nI 8 by decide) q⟩
  · show wX12_spell_3 post (nI n) x (N + 1) (nI i) τ
    rw [wX12_spell_3_s]
    have e : ¬ (8 : Int32) ≤ nI i := by
      intro q
      have := (nI_leI (a := 8) (b := i) (by omega) (by omega)).mp q
      omega
    refine ⟨fun q => absurd q e, fun _ => ?_⟩
    rw [hw i hi, nI_add]
    refine ⟨vin (by omega) (by omega), ?_⟩
    rw [nI_clamp (by omega)]
    rintro _ rfl _ rfl
    rw [nI_1]
    refine k1 _ ⟨g.1, fun c k hc => ?_, fun j hj => ?_⟩
    · rw [gI_o (by omega)]
      exact g.2.1 c k hc
    · by_cases q : j = n + i
      · subst q
        exact gI_s
      · rw [gI_o (by omega)]
        exact g.2.2 j (by omega)
/-- what the reference's constructor leaves -/
def FR (σ : St) : Prop := (∀ c k, gR σ c k = lk rlR c k) ∧ (∀ c k, ¬ c = 1 → gI σ c k = li ilF c k) ∧ ∀ i, i < 56 → gI σ 1 i = nI (ruR i)
set_option maxHeartbeats 4000000 in
set_option maxRecDepth 100000 in
theorem R_init {σ : St} (hR0 : ∀ c k, gR σ c k = none) (hI0 : ∀ c k, gI σ c k = 0) {post : St → List Nat → Prop} (kk : ∀ σ', FR σ' → post σ' (List.range 35)) : wX12_init [0] σ post := by
  have h : SS [] σ [] [] σ := ⟨hR0, fun c k _ => hI0 c k, fun _ _ _ => rfl⟩
  unfold wX12_init
  refine ⟨⟨rfl, by decide, fr0 h (by decide)⟩, fun σ1 e1 ids1 e2 => ?_⟩
  have h := h.n e1 (by decide) (by decide) (by decide)
  have e2 : ids1 = [0, 1] := e2
  subst e2
  clear e1
  intro σ1 e1
  have h := h.r (c := 0) (k := 1) (d := 1) e1
  clear e1
  refine ⟨⟨rfl, by decide, fr0 h (by decide)⟩, fun σ1 e1 ids1 e2 => ?_⟩
  have h := h.n e1 (by decide) (by decide) (by decide)
  have e2 : ids1 = [0, 1, 2] := e2
  subst e2
  clear e1
  intro σ1 e1
  have h := h.r (c := 0) (k := 2) (d := 2) e1
  clear e1
  refine ⟨⟨rfl, by decide, fr0 h (by decide)⟩, fun σ1 e1 ids1 e2 => ?_⟩
  have h := h.n e1 (by decide) (by decide) (by decide)
  have e2 : ids1 = [0, 1, 2, 3] := e2
  subst e2
  clear e1
  intro σ1 e1
  have h := h.r (c := 0) (k := 5) (d := 3) e1
  clear e1
  refine ⟨⟨rfl, by decide, fr0 h (by decide)⟩, fun σ1 e1 ids1 e2 => ?_⟩
  have h := h.n e1 (by decide) (by decide) (by decide)
  have e2 : ids1 = [0, 1, 2, 3, 4] := e2
  subst e2
  clear e1
  intro σ1 e1
  have h := h.r (c := 0) (k := 7) (d := 4) e1
  clear e1
  refine ⟨⟨rfl, by decide, fr0 h (by decide)⟩, fun σ1 e1 ids1 e2 => ?_⟩
  have h := h.n e1 (by decide) (by decide) (by decide)
  have e2 : ids1 = [0, 1, 2, 3, 4, 5] := e2
  subst e2
  clear e1
  intro σ1 e1
  have h := h.r (c := 0) (k := 8) (d := 5) e1
  clear e1
  refine ⟨⟨rfl, by decide, fr0 h (by decide)⟩, fun σ1 e1 ids1 e2 => ?_⟩
  have h := h.n e1 (by decide) (by decide) (by decide)
  have e2 : ids1 = [0, 1, 2, 3, 4, 5, 6] := e2
  subst e2
  clear e1
  intro σ1 e1
  have h := h.r (c := 0) (k := 12) (d := 6) e1
  clear e1
  refine ⟨⟨rfl, by decide, fr0 h (by decide)⟩, fun σ1 e1 ids1 e2 => ?_⟩
  have h := h.n e1 (by decide) (by decide) (by decide)
  have e2 : ids1 = [0, 1, 2, 3, 4, 5, 6, 7] := e2
  subst e2
  clear e1
  intro σ1 e1
  have h := h.r (c := 0) (k := 13) (d := 7) e1
  clear e1
  refine ⟨⟨rfl, by decide, fr0 h (by decide)⟩, fun σ1 e1 ids1 e2 => ?_⟩
  have h := h.n e1 (by decide) (by decide) (by decide)
  have e2 : ids1 = [0, 1, 2, 3, 4, 5, 6, 7, 8] := e2
  subst e2
  clear e1
  intro σ1 e1
  have h := h.r (c := 0) (k := 14) (d := 8) e1
  clear e1
  refine ⟨⟨rfl, by decide, fr0 h (by decide)⟩, fun σ1 e1 ids1 e2 => ?_⟩
  have h := h.n e1 (by decide) (by decide) (by decide)
  have e2 : ids1 = [0, 1, 2, 3, 4, 5, 6, 7, 8, 9] := e2
  subst e2
  clear e1
  intro σ1 e1
  have h := h.r (c := 0) (k := 15) (d := 9) e1
  clear e1
  refine ⟨⟨rfl, by decide, fr0 h (by decide)⟩, fun σ1 e1 ids1 e2 => ?_⟩
  have h := h.n e1 (by decide) (by decide) (by decide)
  have e2 : ids1 = [0, 1, 2, 3, 4, 5, 6, 7, 8, 9, 10] := e2
  subst e2
  clear e1
  intro σ1 e1
  have h := h.r (c := 0) (k := 16) (d := 10) e1
  clear e1
  refine ⟨⟨rfl, by decide, fr0 h (by decide)⟩, fun σ1 e1 ids1 e2 => ?_⟩
  have h := h.n e1 (by decide) (by decide) (by decide)
  have e2 : ids1 = [0, 1, 2, 3, 4, 5, 6, 7, 8, 9, 10, 11] := e2
  subst e2
  clear e1
  intro σ1 e1
  have h := h.r (c := 0) (k := 17) (d := 11) e1
  clear e1
  refine ⟨⟨rfl, by decide, fr0 h (by decide)⟩, fun σ1 e1 ids1 e2 => ?_⟩
  have h := h.n e1 (by decide) (by decide) (by decide)
  have e2 : ids1 = [0, 1, 2, 3, 4, 5, 6, 7, 8, 9, 10, 11, 12] := e2
  subst e2
  clear e1
  intro σ1 e1
  have h := h.r (c := 0) (k := 19) (d := 12) e1
  clear e1
  refine ⟨⟨rfl, by decide, fr0 h (by decide)⟩, fun σ1 e1 ids1 e2 => ?_⟩
  have h := h.n e1 (by decide) (by decide) (by decide)
  have e2 : ids1 = [0, 1, 2, 3, 4, 5, 6, 7, 8, 9, 10, 11, 12, 13] := e2
  subst e2
  clear e1
  intro σ1 e1
  have h := h.r (c := 0) (k := 21) (d := 13) e1
  clear e1
  refine ⟨⟨rfl, by decide, fr0 h (by decide)⟩, fun σ1 e1 ids1 e2 => ?_⟩
  have h := h.n e1 (by decide) (by decide) (by decide)
  have e2 : ids1 = [0, 1, 2, 3, 4, 5, 6, 7, 8, 9, 10, 11, 12, 13, 14] := e2
  subst e2
  clear e1
  intro σ1 e1
  have h := h.r (c := 0) (k := 22) (d := 14) e1
  clear e1
  refine ⟨⟨rfl, by decide, fr0 h (by decide)⟩, fun σ1 e1 ids1 e2 => ?_⟩
  have h := h.n e1 (by decide) (by decide) (by decide)
  have e2 : ids1 = [0, 1, 2, 3, 4, 5, 6, 7, 8, 9, 10, 11, 12, 13, 14, 15] := e2
  subst e2
  clear e1
  intro σ1 e1
  have h := h.r (c := 0) (k := 23) (d := 15) e1
  clear e1
  refine ⟨⟨rfl, by decide, fr0 h (by decide)⟩, fun σ1 e1 ids1 e2 => ?_⟩
  have h := h.n e1 (by decide) (by decide) (by decide)
  have e2 : ids1 = [0, 1, 2, 3, 4, 5, 6, 7, 8, 9, 10, 11, 12, 13, 14, 15, 16] := e2
  subst e2
  clear e1
  intro σ1 e1
  have h := h.r (c := 0) (k := 24) (d := 16) e1
  clear e1
  refine ⟨⟨rfl, by decide, fr0 h (by decide)⟩, fun σ1 e1 ids1 e2 => ?_⟩
  have h := h.n e1 (by decide) (by decide) (by decide)
  have e2 : ids1 = [0, 1, 2, 3, 4, 5, 6, 7, 8, 9, 10, 11, 12, 13, 14, 15, 16, 17] := e2
  subst e2
  clear e1
  intro σ1 e1
  have h := h.r (c := 0) (k := 25) (d := 17) e1
  clear e1
  refine ⟨⟨rfl, by decide, fr0 h (by decide)⟩, fun σ1 e1 ids1 e2 => ?_⟩
  have h := h.n e1 (by decide) (by decide) (by decide)
  have e2 : ids1 = [0, 1, 2, 3, 4, 5, 6, 7, 8, 9, 10, 11, 12, 13, 14, 15, 16, 17, 18] := e2
  subst e2
  clear e1
  intro σ1 e1
  have h := h.r (c := 0) (k := 26) (d := 18) e1
  clear e1
  refine ⟨⟨rfl, by decide, fr0 h (by decide)⟩, fun σ1 e1 ids1 e2 => ?_⟩
  have h := h.n e1 (by decide) (by decide) (by decide)
  have e2 : ids1 = [0, 1, 2, 3, 4, 5, 6, 7, 8, 9, 10, 11, 12, 13, 14, 15, 16, 17, 18, 19] := e2
  subst e2
  clear e1
  intro σ1 e1
  have h := h.r (c := 0) (k := 27) (d := 19) e1
  clear e1
  intro σ1 e1
  have h := h.i (c := 0) (k := 29) e1 (by decide)
  clear e1
  refine ⟨⟨rfl, by decide, fr0 h (by decide)⟩, fun σ1 e1 ids1 e2 => ?_⟩
  have h := h.n e1 (by decide) (by decide) (by decide)
  have e2 : ids1 = [0, 1, 2, 3, 4, 5, 6, 7, 8, 9, 10, 11, 12, 13, 14, 15, 16, 17, 18, 19, 20] := e2
  subst e2
  clear e1
  intro σ1 e1
  have h := h.r (c := 0) (k := 31) (d := 20) e1
  clear e1
  refine ⟨⟨rfl, by decide, fr0 h (by decide)⟩, fun σ1 e1 ids1 e2 => ?_⟩
  have h := h.n e1 (by decide) (by decide) (by decide)
  have e2 : ids1 = [0, 1, 2, 3, 4, 5, 6, 7, 8, 9, 10, 11, 12, 13, 14, 15, 16, 17, 18, 19, 20, 21] := e2
  subst e2
  clear e1
  intro σ1 e1
  have h := h.r (c := 0) (k := 32) (d := 21) e1
  clear e1
  refine ⟨⟨rfl, by decide, fr0 h (by decide)⟩, fun σ1 e1 ids1 e2 => ?_⟩
  have h := h.n e1 (by decide) (by decide) (by decide)
  have e2 : ids1 = [0, 1, 2, 3, 4, 5, 6, 7, 8, 9, 10, 11, 12, 13, 14, 15, 16, 17, 18, 19, 20, 21, 22] := e2
  subst e2
  clear e1
  intro σ1 e1
  have h := h.r (c := 0) (k := 33) (d := 22) e1
  clear e1
  intro σ1 e1
  have h := h.i (c := 0) (k := 34) e1 (by decide)
  clear e1
  refine ⟨⟨rfl, by decide, fr0 h (by decide)⟩, fun σ1 e1 ids1 e2 => ?_⟩
  have h := h.n e1 (by decide) (by decide) (by decide)
  have e2 : ids1 = [0, 1, 2, 3, 4, 5, 6, 7, 8, 9, 10, 11, 12, 13, 14, 15, 16, 17, 18, 19, 20, 21, 22, 23] := e2
  subst e2
  clear e1
  intro σ1 e1
  have h := h.r (c := 0) (k := 51) (d := 23) e1
  clear e1
  refine ⟨⟨rfl, by decide, fr0 h (by decide)⟩, fun σ1 e1 ids1 e2 => ?_⟩
  have h := h.n e1 (by decide) (by decide) (by decide)
  have e2 : ids1 = [0, 1, 2, 3, 4, 5, 6, 7, 8, 9, 10, 11, 12, 13, 14, 15, 16, 17, 18, 19, 20, 21, 22, 23, 24] := e2
  subst e2
  clear e1
  intro σ1 e1
  have h := h.r (c := 0) (k := 52) (d := 24) e1
  clear e1
  refine ⟨⟨rfl, by decide, fr0 h (by decide)⟩, fun σ1 e1 ids1 e2 => ?_⟩
  have h := h.n e1 (by decide) (by decide) (by decide)
  have e2 : ids1 = [0, 1, 2, 3, 4, 5, 6, 7, 8, 9, 10, 11, 12, 13, 14, 15, 16, 17, 18, 19, 20, 21, 22, 23, 24, 25] := e2
  subst e2
  clear e1
  intro σ1 e1
  have h := h.r (c := 0) (k := 55) (d := 25) e1
  clear e1
  refine ⟨⟨rfl, by decide, fr0 h (by decide)⟩, fun σ1 e1 ids1 e2 => ?_⟩
  have h := h.n e1 (by decide) (by decide) (by decide)
  have e2 : ids1 = [0, 1, 2, 3, 4, 5, 6, 7, 8, 9, 10, 11, 12, 13, 14, 15, 16, 17, 18, 19, 20, 21, 22, 23, 24, 25, 26] := e2
  subst e2
  clear e1
  intro σ1 e1
  have h := h.r (c := 0) (k := 56) (d := 26) e1
  clear e1
  refine ⟨⟨rfl, by decide, fr0 h (by decide)⟩, fun σ1 e1 ids1 e2 => ?_⟩
  have h := h.n e1 (by decide) (by decide) (by decide)
  have e2 : ids1 = [0, 1, 2, 3, 4, 5, 6, 7, 8, 9, 10, 11, 12, 13, 14, 15, 16, 17, 18, 19, 20, 21, 22, 23, 24, 25, 26, 27] := e2
  subst e2
  clear e1
  intro σ1 e1
  have h := h.r (c := 0) (k := 57) (d := 27) e1
  clear e1
  refine ⟨⟨rfl, by decide, fr0 h (by decide)⟩, fun σ1 e1 ids1 e2 => ?_⟩
  have h := h.n e1 (by decide) (by decide) (by decide)
  have e2 : ids1 = [0, 1, 2, 3, 4, 5, 6, 7, 8, 9, 10, 11, 12, 13, 14, 15, 16, 17, 18, 19, 20, 21, 22, 23, 24, 25, 26, 27, 28] := e2
  subst e2
  clear e1
  intro σ1 e1
  have h := h.r (c := 0) (k := 58) (d := 28) e1
  clear e1
  refine ⟨⟨rfl, by decide, fr0 h (by decide)⟩, fun σ1 e1 ids1 e2 => ?_⟩
  have h := h.n e1 (by decide) (by decide) (by decide)
  have e2 : ids1 = [0, 1, 2, 3, 4, 5, 6, 7, 8, 9, 10, 11, 12, 13, 14, 15, 16, 17, 18, 19, 20, 21, 22, 23, 24, 25, 26, 27, 28, 29] := e2
  subst e2
  clear e1
  intro σ1 e1
  have h := h.r (c := 0) (k := 59) (d := 29) e1
  clear e1
  refine ⟨⟨rfl, by decide, fr0 h (by decide)⟩, fun σ1 e1 ids1 e2 => ?_⟩
  have h := h.n e1 (by decide) (by decide) (by decide)
  have e2 : ids1 = [0, 1, 2, 3, 4, 5, 6, 7, 8, 9, 10, 11, 12, 13, 14, 15, 16, 17, 18, 19, 20, 21, 22, 23, 24, 25, 26, 27, 28, 29, 30] := e2
  subst e2
  clear e1
  intro σ1 e1
  have h := h.r (c := 0) (k := 60) (d := 30) e1
  clear e1
  refine ⟨⟨rfl, by decide, fr0 h (by decide)⟩, fun σ1 e1 ids1 e2 => ?_⟩
  have h := h.n e1 (by decide) (by decide) (by decide)
  have e2 : ids1 = [0, 1, 2, 3, 4, 5, 6, 7, 8, 9, 10, 11, 12, 13, 14, 15, 16, 17, 18, 19, 20, 21, 22, 23, 24, 25, 26, 27, 28, 29, 30, 31] := e2
  subst e2
  clear e1
  intro σ1 e1
  have h := h.r (c := 0) (k := 67) (d := 31) e1
  clear e1
  refine ⟨⟨rfl, by decide, fr0 h (by decide)⟩, fun σ1 e1 ids1 e2 => ?_⟩
  have h := h.n e1 (by decide) (by decide) (by decide)
  have e2 : ids1 = [0, 1, 2, 3, 4, 5, 6, 7, 8, 9, 10, 11, 12, 13, 14, 15, 16, 17, 18, 19, 20, 21, 22, 23, 24, 25, 26, 27, 28, 29, 30, 31, 32] := e2
  subst e2
  clear e1
  intro σ1 e1
  have h := h.r (c := 0) (k := 68) (d := 32) e1
  clear e1
  refine ⟨⟨rfl, by decide, fr0 h (by decide)⟩, fun σ1 e1 ids1 e2 => ?_⟩
  have h := h.n e1 (by decide) (by decide) (by decide)
  have e2 : ids1 = [0, 1, 2, 3, 4, 5, 6, 7, 8, 9, 10, 11, 12, 13, 14, 15, 16, 17, 18, 19, 20, 21, 22, 23, 24, 25, 26, 27, 28, 29, 30, 31, 32, 33] := e2
  subst e2
  clear e1
  intro σ1 e1
  have h := h.r (c := 0) (k := 69) (d := 33) e1
  clear e1
  refine ⟨⟨rfl, by decide, fr0 h (by decide)⟩, fun σ1 e1 ids1 e2 => ?_⟩
  have h := h.n e1 (by decide) (by decide) (by decide)
  have e2 : ids1 = [0, 1, 2, 3, 4, 5, 6, 7, 8, 9, 10, 11, 12, 13, 14, 15, 16, 17, 18, 19, 20, 21, 22, 23, 24, 25, 26, 27, 28, 29, 30, 31, 32, 33, 34] := e2
  subst e2
  clear e1
  intro σ1 e1
  have h := h.r (c := 0) (k := 70) (d := 34) e1
  clear e1
  refine ⟨st_same (rl := rlR) h.1 72 (fun _ _ q => ⟨stR_hk q, rfl⟩) (by decide +kernel), by decide, ?_⟩
  have h : SP 0 _ := ⟨h.1, fun c k _ => h.2.1 c k List.not_mem_nil, fun i q => absurd q (Nat.not_lt_zero i)⟩
  refine spl (n := 0) h (by decide) (by decide) (by decide) (fun σ1 h => ?_)
  refine spl (n := 8) h (by decide) (by decide) (by decide) (fun σ1 h => ?_)
  refine spl (n := 16) h (by decide) (by decide) (by decide) (fun σ1 h => ?_)
  refine spl (n := 24) h (by decide) (by decide) (by decide) (fun σ1 h => ?_)
  refine spl (n := 32) h (by decide) (by decide) (by decide) (fun σ1 h => ?_)
  refine spl (n := 40) h (by decide) (by decide) (by decide) (fun σ1 h => ?_)
  refine spl (n := 48) h (by decide) (by decide) (by decide) (fun σ0 h => ?_)
  have h0 := h.2.2
  refine ⟨(h.1 0 2).trans (by decide), vin (i := 0) (by decide) (by decide), ?_⟩
  have h : SS [1] σ0 rlR ilR σ0 := ⟨h.1, fun c k q => h.2.1 c k (fun z => q (z ▸ List.mem_cons_self)), fun _ _ _ => rfl⟩
  intro σ1 e1
  have h := h.i (c := 2) (k := 0) e1 (by decide)
  clear e1
  intro σ1 e1
  have h := h.i (c := 0) (k := 3) e1 (by decide)
  clear e1
  intro σ1 e1
  have h := h.i (c := 0) (k := 10) e1 (by decide)
  clear e1
  intro σ1 e1
  have h := h.i (c := 0) (k := 11) e1 (by decide)
  clear e1
  exact kk _ ⟨h.1, fun c k q => h.2.1 c k (fun z => q (List.mem_singleton.mp z)), fun i hi => (h.2.2 1 i (by decide)).trans (h0 i hi)⟩
def W0 : Vw := fun a b => if a = 0 then (if b = 1 then 100 else if b = 2 then 1000 else if b = 12 then 1 else 0) else 0
theorem Rel0 {σ ρ : St} (hX : FX σ) (hR : FR ρ) : Rel idsX0 σ ρ := by
  have cov : ∀ c, c < 52 → ¬ c = 19 → c ∈ idsX0 := by decide
  have x : ∀ c k v, c ∉ [2, 13, 20, 21, 22, 23] → li ilX c k = v → gI σ c k = v := fun c k v q e => (hX.2.1 c k q).trans e
  have y : ∀ c k v, ¬ c = 1 → li ilF c k = v → gI ρ c k = v := fun c k v q e => (hR.2.1 c k q).trans e
  have z0 : W0 0 0 = 0 := rfl
  have z3 : W0 0 3 = 0 := rfl
  have z4 : W0 0 4 = 0 := rfl
  have z5 : W0 0 5 = 0 := rfl
  have z7 : W0 0 7 = 0 := rfl
  have z8 : W0 0 8 = 0 := rfl
  have z12 : W0 0 12 = 1 := rfl
  have z14 : W0 0 14 = 0 := rfl
  have hI : Iv W0 := by
    unfold Iv
    refine ⟨by decide, ?_, ?_, ?_, ?_, ?_, ?_, ?_⟩
    all_goals intros
    all_goals omega
  have hD : Dv W0 := by
    unfold Dv
    refine ⟨by decide, fun q => absurd q (by decide), ?_, ?_, ?_, ?_, ?_, ?_⟩
    all_goals intros
    all_goals omega
  have hFr : Fr W0 idsX0 σ := by
    refine ⟨fun c q => cov c q.1 q.2, fun c q => Or.inl ?_, fun c _ k d e => ?_⟩
    · have : ∀ c ∈ idsX0, c < 52 := by decide
      exact this c q
    · rw [hX.1] at e
      have : ∀ e ∈ rlX, e.2.2 ∈ idsX0 := by decide
      exact this _ (lk_in e)
  have hMX : MX W0 idsX0 σ := by
    unfold MX
    rw [z0, z3, z4]
    refine ⟨⟨x _ _ _ (by decide) (by decide), x _ _ _ (by decide) (by decide), x _ _ _ (by decide) (by decide), x _ _ _ (by decide) (by decide), x _ _ _ (by decide) (by decide)⟩, ?_, ?_, ?_, ?_⟩
    all_goals intro i hi
    all_goals exact absurd hi (Nat.not_lt_zero i)
  have hDX : DX W0 σ := by
    unfold DX
    rw [z0, z4, z5]
    refine ⟨x _ _ _ (by decide) (by decide), ?_, ?_, ?_⟩
    all_goals intro i hi
    all_goals exact absurd hi (Nat.not_lt_zero i)
  have hIX : IX W0 σ := by
    unfold IX
    rw [z3, z4]
    refine ⟨⟨x _ _ _ (by decide) (by decide), x _ _ _ (by decide) (by decide), x _ _ _ (by decide) (by decide), x _ _ _ (by decide) (by decide)⟩, ?_, ?_⟩
    all_goals intro i hi
    all_goals exact absurd hi (Nat.not_lt_zero i)
  have hTS : TS W0 σ := by
    unfold TS
    rw [z14]
    refine ⟨x _ _ _ (by decide) (by decide), x _ _ _ (by decide) (by decide), hX.2.2.1, ?_⟩
    intro i hi
    exact absurd hi (Nat.not_lt_zero i)
  have hMR : MR W0 ρ := by
    unfold MR
    rw [z0, z3, z4]
    refine ⟨⟨y _ _ _ (by decide) (by decide), y _ _ _ (by decide) (by decide), y _ _ _ (by decide) (by decide), y _ _ _ (by decide) (by decide), y _ _ _ (by decide) (by decide)⟩, ?_, ?_, ?_⟩
    all_goals intro i hi
    all_goals exact absurd hi (Nat.not_lt_zero i)
  have hDR : DR W0 ρ := by
    unfold DR
    rw [z4, z5]
    refine ⟨y _ _ _ (by decide) (by decide), ?_, ?_, y _ _ _ (by decide) (by decide), y _ _ _ (by decide) (by decide)⟩
    all_goals intro i hi
    all_goals exact absurd hi (Nat.not_lt_zero i)
  have hIR : IR W0 ρ := by
    unfold IR
    rw [z7, z8]
    refine ⟨⟨y _ _ _ (by decide) (by decide), y _ _ _ (by decide) (by decide), y _ _ _ (by decide) (by decide), y _ _ _ (by decide) (by decide), y _ _ _ (by decide) (by decide), y _ _ _ (by decide) (by decide)⟩, ?_, ?_⟩
    all_goals intro i hi
    all_goals exact absurd hi (Nat.not_lt_zero i)
  have hTQ : TQ W0 ρ := by
    unfold TQ
    rw [z14]
    refine ⟨y _ _ _ (by decide) (by decide), y _ _ _ (by decide) (by decide), y _ _ _ (by decide) (by decide), ?_⟩
    intro i hi
    exact absurd hi (Nat.not_lt_zero i)
  obtain ⟨L0, L1, L2, p1, p2⟩ := rule_ok
  refine RW.rel (W := W0) ⟨⟨hI, hD⟩, ⟨hFr, hMX, hDX, hIX, hTS⟩, ⟨hMR, hDR, hIR, hTQ⟩, fun t ht => ?_, fun s hs => ?_⟩
  · rw [z12] at ht
    have : t = 0 := by omega
    subst this
    refine ⟨ruR, 56, L0, L1, L2, ⟨y _ _ _ (by decide) (by decide), by decide, fun i hi => ⟨ruR_lt i, ?_⟩⟩, p2, hX.2.2.2 L0 L1 L2 p1⟩
    rw [show 160 * 0 + i = i by omega]
    exact hR.2.2 i hi
  · refine Or.inl ?_
    have : s = 0 ∨ s = 1 ∨ s = 2 ∨ s = 3 := by omega
    rcases this with rfl | rfl | rfl | rfl
    all_goals exact ⟨x _ _ _ (by decide) (by decide), y _ _ _ (by decide) (by decide)⟩
