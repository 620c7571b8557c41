/-! PURE: the reference reads tokens -/
/-- bytes of the text x, in the reference's store -/
def TB (b : By) (n x : Nat) (τ : St) : Prop := x < 6 ∧ n ≤ 160 ∧ gI τ 0 36 = nI (160 * x) ∧ gI τ 0 37 = nI n ∧ ∀ i, i < n → b i < 256 ∧ gI τ 1 (160 * x + i) = nI (b i)
def RF (ρ τ : St) : Prop := (∀ c k, ¬ (c = 0 ∧ 38 ≤ k ∧ k ≤ 44) → gI τ c k = gI ρ c k) ∧ ∀ c k, ¬ c = 0 → gJ τ c k = gJ ρ c k
theorem RF.rf (ρ : St) : RF ρ ρ := ⟨fun _ _ _ => rfl, fun _ _ _ => rfl⟩
theorem RF.tr {ρ τ υ : St} (h : RF ρ τ) (g : RF τ υ) : RF ρ υ := ⟨fun c k n => (g.1 c k n).trans (h.1 c k n), fun c k n => (g.2 c k n).trans (h.2 c k n)⟩
theorem RF.uI {ρ τ : St} (h : RF ρ τ) {k : Nat} {v : Int32} (hk : 38 ≤ k ∧ k ≤ 44) : RF ρ (uI τ 0 k v) := ⟨fun c j n => by rw [gI_o (by omega)]; exact h.1 c j n, h.2⟩
theorem RF.uJ {ρ τ : St} (h : RF ρ τ) {k : Nat} {v : Int64} : RF ρ (uJ τ 0 k v) := ⟨h.1, fun c j n => by rw [gJ_o (by omega)]; exact h.2 c j n⟩
theorem TB.f {b : By} {n x : Nat} {ρ τ : St} (h : TB b n x ρ) (f : RF ρ τ) : TB b n x τ := by
  obtain ⟨h1, h2, h3, h4, h5⟩ := h
  refine ⟨h1, h2, ?_, ?_, fun i hi => ?_⟩
  · rw [f.1 _ _ (by omega)]; exact h3
  · rw [f.1 _ _ (by omega)]; exact h4
  · rw [f.1 _ _ (by omega)]; exact h5 i hi
/-- the byte at i, or -1 -/
def byI (b : By) (n i : Nat) : Int32 := if i < n then nI (b i) else -1
theorem sR_byteAt {b : By} {n x : Nat} {τ : St} (hT : TB b n x τ) {i : Nat} (hi : i ≤ n) {post : Int32 → St → Prop} (h : post (byI b n i) τ) : wX12_byteAt (nI i) τ post := by
  obtain ⟨h1, h2, h3, h4, h5⟩ := hT
  unfold wX12_byteAt
  rw [h4, nI_leI (by omega) (by omega)]
  unfold byI at h
  by_cases g : n ≤ i
  · rw [if_neg (by omega)] at h
    exact dt g h
  · rw [if_pos (by omega)] at h
    rw [h3, nI_add]
    refine df g ⟨vin (by omega) (by omega), ?_⟩
    rw [nI_clamp (by omega), (h5 i (by omega)).2]
    exact h
theorem byI_wi {b : By} {n i : Nat} (hb : i < n → b i < 256) (lo hi : Nat) (hl : 1 ≤ lo) : wi (byI b n i).toInt lo hi = (decide (i < n) && (decide (lo ≤ b i) && decide (b i ≤ hi))) := by
  unfold byI wi
  by_cases g : i < n
  · rw [if_pos g, fb_nI (by have := hb g; omega)]
    rw [decide_eq_true g, Bool.true_and]
    by_cases c1 : lo ≤ b i
    · by_cases c2 : b i ≤ hi
      · rw [decide_eq_true c1, decide_eq_true c2]
        exact decide_eq_true ⟨by omega, by omega⟩
      · rw [decide_eq_false c2, Bool.and_false]
        exact decide_eq_false (by omega)
    · rw [decide_eq_false c1, Bool.false_and]
      exact decide_eq_false (by omega)
  · rw [if_neg g, decide_eq_false g, Bool.false_and]
    have : (-1 : Int32).toInt = -1 := by decide
    rw [this]
    exact decide_eq_false (by omega)
theorem byI_eq {b : By} {n i : Nat} (hb : i < n → b i < 256) {v : Nat} (hv : v < 256) : byI b n i = nI v ↔ i < n ∧ b i = v := by
  unfold byI
  by_cases g : i < n
  · rw [if_pos g, nI_eq (by have := hb g; omega) (by omega)]
    exact ⟨fun z => ⟨g, z⟩, fun z => z.2⟩
  · rw [if_neg g]
    exact ⟨fun z => absurd z.symm (ne_m1 (by omega)), fun z => absurd z.1 g⟩
/-- the reference's token at c -/
def RSt (b : By) (n c : Nat) (τ : St) : Prop := gI τ 0 39 = nI (pc b n c) ∧ ((tk b n c = 0 ∧ gI τ 0 38 = 0 ∧ wv b n c = 0) ∨ (tk b n c = 2 ∧ gI τ 0 38 = 2 ∧ gJ τ 0 40 = lN (nvl b n c) ∧ gI τ 0 41 = nI (nx b n c) ∧ wv b n c = 0) ∨ (tk b n c = wtk (wv b n c) ∧ gI τ 0 38 = 1 ∧ ((gJ τ 0 40 = lN (wv b n c) ∧ wv b n c < 2 ^ 63) ∨ (gJ τ 0 40 = -1 ∧ wv b n c = 0)) ∧ gI τ 0 41 = nI (nx b n c)) ∨ (isS (tk b n c) = true ∧ gI τ 0 38 = 3 ∧ gJ τ 0 40 = lN (tk b n c) ∧ gI τ 0 41 = nI (nx b n c) ∧ wv b n c = 0) ∨ (tk b n c = 1 ∧ gI τ 0 38 = 4 ∧ wv b n c = 0))
theorem wv_no {b : By} {n c : Nat} (h : ¬ (pc b n c < n ∧ isL (b (pc b n c)) = true)) : wv b n c = 0 := by
  unfold wv eL
  rw [E_n h, Nat.sub_self]
  rfl
theorem wvl_lt {b : By} {p : Nat} : ∀ l, (∀ i, i < l → b (p + i) ≤ 122) → wvl b p l < 27 ^ l := by
  intro l
  induction l with
  | zero => intro _; exact Nat.one_pos
  | succ l ih =>
    intro h
    have h1 := ih (fun i hi => h i (by omega))
    have h2 := h l (by omega)
    rw [wvl_s, Nat.pow_succ]
    omega
theorem sR_next211 {b : By} {n x : Nat} {ρ : St} (hT : TB b n x ρ) {p : Nat} (hp : p ≤ n) {post : St → Prop} (h : ∀ τ, RF ρ τ → gI τ 0 39 = gI ρ 0 39 → gI τ 0 42 = gI ρ 0 42 → gI τ 0 43 = gI ρ 0 43 → gI τ 0 44 = gI ρ 0 44 → gI τ 0 41 = nI (E (fun i => isD (b i)) n p) → gI τ 0 38 = (if E (fun i => isD (b i)) n p - p ≤ 4 then 2 else 4) → (E (fun i => isD (b i)) n p - p ≤ 4 → gJ τ 0 40 = lN (dvl b p (E (fun i => isD (b i)) n p - p))) → post τ) (h0 : gI ρ 0 41 = nI p) (h1 : gJ ρ 0 40 = 0) : ∃ N, wX12_next_211 post N 0 ρ := by
  have hn := hT.2.1
  have key := lpq1 (A1 := Int32) (fun N a τ => wX12_next_211 post N a τ) (fun m a τ => ∃ k, a = nI k ∧ p + k ≤ n ∧ m = n - (p + k) ∧ E (fun i => isD (b i)) n (p + k) = E (fun i => isD (b i)) n p ∧ RF ρ τ ∧ gI τ 0 39 = gI ρ 0 39 ∧ gI τ 0 42 = gI ρ 0 42 ∧ gI τ 0 43 = gI ρ 0 43 ∧ gI τ 0 44 = gI ρ 0 44 ∧ gI τ 0 41 = nI (p + k) ∧ (k ≤ 4 → gJ τ 0 40 = lN (dvl b p k))) ?_ (n - p) 0 ρ ⟨0, rfl, by omega, rfl, rfl, RF.rf ρ, rfl, rfl, rfl, rfl, h0, fun _ => h1⟩
  · exact key
  · rintro N m a τ ⟨k, rfl, hk, rfl, hE, hF, q39, q42, q43, q44, q41, q40⟩ kk
    show wX12_next_211 post (N + 1) (nI k) τ
    rw [wX12_next_211_s, q41]
    have hTt := hT.f hF
    have hb : p + k < n → b (p + k) < 256 := fun g => (hT.2.2.2.2 _ g).1
    have e4 : ((nI k : Int32) ≤ (4 : Int32)) ↔ k ≤ 4 := nI_leI (b := 4) (by omega) (by omega)
    have e4' : ((4 : Int32) ≤ nI k) ↔ 4 ≤ k := nI_leI (a := 4) (by omega) (by omega)
    refine sR_byteAt hTt (by omega) (sR_inI 48 57 rfl rfl ?_)
    have ew := byI_wi hb 48 57 (by omega)
    have ew' : wi (byI b n (p + k)).toInt 48 57 = (decide (p + k < n) && isD (b (p + k))) := ew
    rw [ew']
    refine bI_d (fun c => ?_) (fun c => ?_)
    · have e : E (fun i => isD (b i)) n p = p + k := by
        rw [← hE]
        refine E_n (fun z => ?_)
        rw [decide_eq_true z.1, Bool.true_and] at c
        rw [c] at z
        exact absurd z.2 (by decide)
      rw [e] at h
      have ek : p + k - p = k := by omega
      rw [ek] at h
      rw [e4]
      refine ⟨fun g => ?_, fun g => ?_⟩
      · rintro s4 rfl
        refine h _ (hF.uI (by omega)) (by rw [gI_o (by omega)]; exact q39) (by rw [gI_o (by omega)]; exact q42) (by rw [gI_o (by omega)]; exact q43) (by rw [gI_o (by omega)]; exact q44) (by rw [gI_o (by omega)]; exact q41) (by rw [gI_s, if_pos g]) (fun _ => q40 g)
      · rintro s4 rfl
        refine h _ (hF.uI (by omega)) (by rw [gI_o (by omega)]; exact q39) (by rw [gI_o (by omega)]; exact q42) (by rw [gI_o (by omega)]; exact q43) (by rw [gI_o (by omega)]; exact q44) (by rw [gI_o (by omega)]; exact q41) (by rw [gI_s, if_neg g]) (fun z => absurd z g)
    · rw [Bool.and_eq_true] at c
      have hlt := of_decide_eq_true c.1
      have hE2 : E (fun i => isD (b i)) n (p + (k + 1)) = E (fun i => isD (b i)) n p := by
        rw [← hE, E_y (q := fun i => isD (b i)) hlt c.2]
        rfl
      have go : ∀ s1 : Int64, (k + 1 ≤ 4 → s1 = lN (dvl b p (k + 1))) → wX12_next_267 (fun a s => wX12_next_211 post N a s) post (nI k) s1 τ := by
        rintro s1 hs s5 rfl v6 rfl s7 rfl
        rw [gI_uJ, q41, nI_1, nI_1]
        refine kk _ _ _ ⟨k + 1, rfl, by omega, rfl, hE2, (hF.uJ).uI (by omega), ?_, ?_, ?_, ?_, gI_s, fun g => ?_⟩ (by omega)
        · rw [gI_o (by omega)]; exact q39
        · rw [gI_o (by omega)]; exact q42
        · rw [gI_o (by omega)]; exact q43
        · rw [gI_o (by omega)]; exact q44
        · rw [gJ_uI, gJ_s]; exact hs g
      rw [e4']
      refine ⟨fun g => go _ (fun z => by omega), fun g => ?_⟩
      rw [q41]
      refine sR_byteAt hTt (by omega) (go _ (fun _ => ?_))
      have hD : 48 ≤ b (p + k) ∧ b (p + k) ≤ 57 := by
        have := c.2
        unfold isD at this
        simp at this
        exact this
      have e10 : (10 : Int64) = lN 10 := rfl
      have e48 : (48 : Int64) = lN 48 := rfl
      unfold byI
      rw [if_pos hlt, q40 (by omega), nI_l (by omega), e10, e48, lN_mul, lN_add, lN_sub (by omega), dvl_s]
      congr 1
      omega
theorem sR_next107 {b : By} {n x : Nat} {ρ : St} (hT : TB b n x ρ) {p : Nat} (hp : p ≤ n) {post : St → Prop} (h : ∀ τ, RF ρ τ → gI τ 0 38 = gI ρ 0 38 → gI τ 0 39 = gI ρ 0 39 → gI τ 0 42 = gI ρ 0 42 → gI τ 0 43 = gI ρ 0 43 → gI τ 0 44 = gI ρ 0 44 → gI τ 0 41 = nI (E (fun i => isL (b i)) n p) → (gJ τ 0 40 = if E (fun i => isL (b i)) n p - p ≤ 8 then lN (wvl b p (E (fun i => isL (b i)) n p - p)) else -1) → post τ) (h0 : gI ρ 0 41 = nI p) (h1 : gJ ρ 0 40 = 0) : ∃ N, wX12_next_107 post N 0 ρ := by
  have hn := hT.2.1
  have key := lpq1 (A1 := Int32) (fun N a τ => wX12_next_107 post N a τ) (fun m a τ => ∃ k, a = nI k ∧ p + k ≤ n ∧ m = n - (p + k) ∧ E (fun i => isL (b i)) n (p + k) = E (fun i => isL (b i)) n p ∧ RF ρ τ ∧ (gI τ 0 38 = gI ρ 0 38 ∧ gI τ 0 39 = gI ρ 0 39 ∧ gI τ 0 42 = gI ρ 0 42 ∧ gI τ 0 43 = gI ρ 0 43 ∧ gI τ 0 44 = gI ρ 0 44) ∧ gI τ 0 41 = nI (p + k) ∧ (gJ τ 0 40 = if k ≤ 8 then lN (wvl b p k) else -1)) ?_ (n - p) 0 ρ ⟨0, rfl, by omega, rfl, rfl, RF.rf ρ, ⟨rfl, rfl, rfl, rfl, rfl⟩, h0, h1⟩
  · exact key
  · rintro N m a τ ⟨k, rfl, hk, rfl, hE, hF, ⟨q38, q39, q42, q43, q44⟩, q41, q40⟩ kk
    show wX12_next_107 post (N + 1) (nI k) τ
    rw [wX12_next_107_s, q41]
    have hTt := hT.f hF
    have hb : p + k < n → b (p + k) < 256 := fun g => (hT.2.2.2.2 _ g).1
    have e8' : ((8 : Int32) ≤ nI k) ↔ 8 ≤ k := nI_leI (a := 8) (by omega) (by omega)
    refine sR_byteAt hTt (by omega) (sR_inI 97 122 rfl rfl ?_)
    have ew := byI_wi hb 97 122 (by omega)
    have ew' : wi (byI b n (p + k)).toInt 97 122 = (decide (p + k < n) && isL (b (p + k))) := ew
    rw [ew']
    refine bI_d (fun c => ?_) (fun c => ?_)
    · have e : E (fun i => isL (b i)) n p = p + k := by
        rw [← hE]
        refine E_n (fun z => ?_)
        rw [decide_eq_true z.1, Bool.true_and] at c
        rw [c] at z
        exact absurd z.2 (by decide)
      rw [e, show p + k - p = k by omega] at h
      exact h τ hF q38 q39 q42 q43 q44 q41 q40
    · rw [Bool.and_eq_true] at c
      have hlt := of_decide_eq_true c.1
      have hE2 : E (fun i => isL (b i)) n (p + (k + 1)) = E (fun i => isL (b i)) n p := by
        rw [← hE, E_y (q := fun i => isL (b i)) hlt c.2]
        rfl
      have go : ∀ s1 : Int64, (s1 = if k + 1 ≤ 8 then lN (wvl b p (k + 1)) else -1) → wX12_next_163 (fun a s => wX12_next_107 post N a s) post (nI k) s1 τ := by
        rintro s1 hs s5 rfl v6 rfl s7 rfl
        rw [gI_uJ, q41, nI_1, nI_1]
        refine kk _ _ _ ⟨k + 1, rfl, by omega, rfl, hE2, (hF.uJ).uI (by omega), ⟨?_, ?_, ?_, ?_, ?_⟩, gI_s, ?_⟩ (by omega)
        · rw [gI_o (by omega)]; exact q38
        · rw [gI_o (by omega)]; exact q39
        · rw [gI_o (by omega)]; exact q42
        · rw [gI_o (by omega)]; exact q43
        · rw [gI_o (by omega)]; exact q44
        · rw [gJ_uI, gJ_s]; exact hs
      rw [e8']
      refine ⟨fun g => go _ (by rw [if_neg (by omega)]), fun g => ?_⟩
      rw [q41]
      refine sR_byteAt hTt (by omega) (go _ ?_)
      have hD : 97 ≤ b (p + k) ∧ b (p + k) ≤ 122 := by
        have := c.2
        unfold isL at this
        simp at this
        exact this
      have e27 : (27 : Int64) = lN 27 := rfl
      have e96 : (96 : Int64) = lN 96 := rfl
      unfold byI
      rw [if_pos hlt, q40, if_pos (by omega), if_pos (by omega), nI_l (by omega), e27, e96, lN_mul, lN_add, lN_sub (by omega), wvl_s]
      congr 1
      omega
theorem sR_next {b : By} {n x : Nat} {ρ : St} (hT : TB b n x ρ) {c : Nat} (hc : c ≤ n) (h41 : gI ρ 0 41 = nI c) {post : St → Prop} (h : ∀ τ, RF ρ τ → gI τ 0 42 = gI ρ 0 42 → gI τ 0 43 = gI ρ 0 43 → gI τ 0 44 = gI ρ 0 44 → RSt b n c τ → post τ) : wX12_next ρ post := by
  have hn := hT.2.1
  refine lpq1 (A1 := Unit) (fun N _ τ => wX12_next_0 post N τ) (fun m _ τ => ∃ i, c ≤ i ∧ i ≤ n ∧ m = n - i ∧ pc b n i = pc b n c ∧ RF ρ τ ∧ gI τ 0 42 = gI ρ 0 42 ∧ gI τ 0 43 = gI ρ 0 43 ∧ gI τ 0 44 = gI ρ 0 44 ∧ gI τ 0 41 = nI i) ?_ (n - c) () ρ ⟨c, Nat.le_refl c, hc, rfl, rfl, RF.rf ρ, rfl, rfl, rfl, h41⟩
  rintro N m ⟨⟩ τ ⟨i, hi1, hi2, rfl, hE, hF, q42, q43, q44, q41⟩ kk
  show wX12_next_0 post (N + 1) τ
  rw [wX12_next_0_s, q41]
  have hTt := hT.f hF
  have hb : i < n → b i < 256 := fun g => (hT.2.2.2.2 _ g).1
  have f32 : (byI b n i = (32 : Int32)) ↔ i < n ∧ b i = 32 := byI_eq hb (v := 32) (by omega)
  have f10 : (byI b n i = (10 : Int32)) ↔ i < n ∧ b i = 10 := byI_eq hb (v := 10) (by omega)
  have go : i < n → (b i = 32 ∨ b i = 10) → wX12_next_26 (fun s => wX12_next_0 post N s) post τ := by
    rintro hlt hw s rfl
    rw [q41, nI_1]
    refine kk (n - (i + 1)) () _ ⟨i + 1, by omega, by omega, rfl, ?_, hF.uI (by omega), ?_, ?_, ?_, gI_s⟩ (by omega)
    · rw [← hE]
      unfold pc
      exact (E_y (q := fun i => isW (b i)) hlt (by unfold isW; simp; exact hw)).symm
    · rw [gI_o (by omega)]; exact q42
    · rw [gI_o (by omega)]; exact q43
    · rw [gI_o (by omega)]; exact q44
  refine sR_byteAt hTt hi2 ?_
  rw [f32]
  refine ⟨fun g => go g.1 (Or.inl g.2), fun g1 => ?_⟩
  rw [q41]
  refine sR_byteAt hTt hi2 ?_
  rw [f10]
  refine ⟨fun g2 => ?_, fun g => go g.1 (Or.inr g.2)⟩
  have hpc : pc b n c = i := by
    rw [← hE]
    unfold pc
    refine E_n (fun z => ?_)
    have := z.2
    unfold isW at this
    simp at this
    rcases this with y | y
    · exact g1 ⟨z.1, y⟩
    · exact g2 ⟨z.1, y⟩
  rintro s35 rfl
  rw [gI_o (by omega), q41]
  have F35 : RF ρ (uI τ 0 39 (nI i)) := hF.uI (by omega)
  refine sR_byteAt (hT.f F35) hi2 ?_
  rintro s38 rfl
  have F38 : RF ρ (uI (uI τ 0 39 (nI i)) 0 38 4) := F35.uI (by omega)
  have wi1 : wi (byI b n i).toInt 97 122 = (decide (i < n) && isL (b i)) := byI_wi hb 97 122 (by omega)
  have wi2 : wi (byI b n i).toInt 48 57 = (decide (i < n) && isD (b i)) := byI_wi hb 48 57 (by omega)
  have etk : tk b n c = if n ≤ i then 0 else if isD (b i) = true then (if eD b n c - i ≤ 4 then 2 else 1) else if isL (b i) = true then wtk (wv b n c) else if isS (b i) = true then b i else 1 := by unfold tk; rw [hpc]
  have enx : nx b n c = if n ≤ i then i else if isD (b i) = true then eD b n c else if isL (b i) = true then eL b n c else i + 1 := by unfold nx; rw [hpc]
  have eDc : eD b n c = E (fun i => isD (b i)) n i := by unfold eD; rw [hpc]
  have eLc : eL b n c = E (fun i => isL (b i)) n i := by unfold eL; rw [hpc]
  have wv0 : ¬ (i < n ∧ isL (b i) = true) → wv b n c = 0 := fun z => wv_no (by rw [hpc]; exact z)
  by_cases hin : i < n
  rotate_left
  · have e1 : byI b n i = -1 := if_neg hin
    rw [e1]
    refine df (by decide) ?_
    rintro s60 rfl s61 rfl
    refine h _ ((F38.uI (by omega)).uI (by omega)) ?_ ?_ ?_ ⟨?_, Or.inl ⟨?_, ?_, ?_⟩⟩
    · rw [gI_o (by omega), gI_o (by omega), gI_o (by omega), gI_o (by omega)]; exact q42
    · rw [gI_o (by omega), gI_o (by omega), gI_o (by omega), gI_o (by omega)]; exact q43
    · rw [gI_o (by omega), gI_o (by omega), gI_o (by omega), gI_o (by omega)]; exact q44
    · rw [gI_s, gI_o (by omega), gI_o (by omega), gI_o (by omega), hTt.2.2.2.1, hpc]
      congr 1
      omega
    · rw [etk, if_pos (by omega)]
    · rw [gI_o (by omega), gI_s]
    · exact wv0 (fun z => hin z.1)
  · have hb1 := hb hin
    have e1 : byI b n i = nI (b i) := if_pos hin
    rw [if_neg (by omega)] at etk enx
    have p0 : (0 : Int32) ≤ byI b n i := by rw [e1]; exact nI_pos' (by omega)
    refine dt p0 (sR_inI 97 122 rfl rfl ?_)
    rw [wi1, decide_eq_true hin, Bool.true_and]
    have isLD : isL (b i) = true → isD (b i) = false := by
      intro z
      unfold isL at z
      unfold isD
      simp at z ⊢
      omega
    refine bI_d (fun cL => ?_) (fun cL => ?_)
    · refine sR_inI 48 57 rfl rfl ?_
      rw [wi2, decide_eq_true hin, Bool.true_and]
      rw [cL] at etk enx
      have w0 := wv0 (fun z => by rw [cL] at z; exact absurd z.2 (by decide))
      refine bI_d (fun cD => ?_) (fun cD => ?_)
      · rw [cD] at etk enx
        simp only [Bool.false_eq_true, if_false] at etk enx
        have sgn : isS (b i) = true → wX12_next_351 post (byI b n i) (uI (uI τ 0 39 (nI i)) 0 38 4) := by
          rintro hs s1 rfl s2 rfl s3 rfl
          rw [hs, if_pos rfl] at etk
          rw [gI_uJ, gI_o (by omega), gI_o (by omega), gI_o (by omega), q41, nI_1]
          refine h _ (((F38.uI (by omega)).uJ).uI (by omega)) ?_ ?_ ?_ ⟨?_, Or.inr (Or.inr (Or.inr (Or.inl ⟨?_, ?_, ?_, ?_, w0⟩)))⟩
          · rw [gI_o (by omega), gI_uJ, gI_o (by omega), gI_o (by omega), gI_o (by omega)]; exact q42
          · rw [gI_o (by omega), gI_uJ, gI_o (by omega), gI_o (by omega), gI_o (by omega)]; exact q43
          · rw [gI_o (by omega), gI_uJ, gI_o (by omega), gI_o (by omega), gI_o (by omega)]; exact q44
          · rw [gI_o (by omega), gI_uJ, gI_o (by omega), gI_o (by omega), gI_s, hpc]
          · rw [etk]; exact hs
          · rw [gI_o (by omega), gI_uJ, gI_s]
          · rw [gJ_uI, gJ_s, etk, e1, nI_l (by omega)]
          · rw [gI_s, enx]
        have no : isS (b i) = false → wX12_next_372 post (uI (uI τ 0 39 (nI i)) 0 38 4) := by
          intro hs
          rw [hs] at etk
          simp only [Bool.false_eq_true, if_false] at etk
          refine h _ F38 ?_ ?_ ?_ ⟨?_, Or.inr (Or.inr (Or.inr (Or.inr ⟨etk, gI_s, w0⟩)))⟩
          · rw [gI_o (by omega), gI_o (by omega)]; exact q42
          · rw [gI_o (by omega), gI_o (by omega)]; exact q43
          · rw [gI_o (by omega), gI_o (by omega)]; exact q44
          · rw [gI_o (by omega), gI_s, hpc]
        have f : ∀ v : Nat, v < 256 → (byI b n i = nI v ↔ b i = v) := fun v hv => by rw [e1, nI_eq (by omega) (by omega)]
        have g40 : (byI b n i = (40 : Int32)) ↔ b i = 40 := f 40 (by omega)
        have g41 : (byI b n i = (41 : Int32)) ↔ b i = 41 := f 41 (by omega)
        have g59 : (byI b n i = (59 : Int32)) ↔ b i = 59 := f 59 (by omega)
        have g43 : (byI b n i = (43 : Int32)) ↔ b i = 43 := f 43 (by omega)
        have g45 : (byI b n i = (45 : Int32)) ↔ b i = 45 := f 45 (by omega)
        have g42 : (byI b n i = (42 : Int32)) ↔ b i = 42 := f 42 (by omega)
        have g60 : (byI b n i = (60 : Int32)) ↔ b i = 60 := f 60 (by omega)
        have g61 : (byI b n i = (61 : Int32)) ↔ b i = 61 := f 61 (by omega)
        rw [g40, g41, g59, g43, g45, g42, g60, g61]
        have ys : (b i = 40 ∨ b i = 41 ∨ b i = 59 ∨ b i = 43 ∨ b i = 45 ∨ b i = 42 ∨ b i = 60 ∨ b i = 61) → isS (b i) = true := by
          rintro (z | z | z | z | z | z | z | z) <;> (unfold isS; rw [z]; rfl)
        refine ⟨fun z => sgn (ys (by omega)), fun z1 => ⟨fun z => sgn (ys (by omega)), fun z2 => ⟨fun z => sgn (ys (by omega)), fun z3 => ⟨fun z => sgn (ys (by omega)), fun z4 => ⟨fun z => sgn (ys (by omega)), fun z5 => ⟨fun z => sgn (ys (by omega)), fun z6 => ⟨fun z => sgn (ys (by omega)), fun z7 => ⟨fun z8 => no ?_, fun z => sgn (ys (by omega))⟩⟩⟩⟩⟩⟩⟩⟩
        cases hs : isS (b i)
        · rfl
        · have := isS_r hs
          omega
      · rw [cD] at etk enx
        simp only [if_true] at etk enx
        rintro s54 rfl s55 rfl
        have F55 : RF ρ (uJ (uI (uI (uI τ 0 39 (nI i)) 0 38 4) 0 38 2) 0 40 0) := (F38.uI (by omega)).uJ
        refine sR_next211 (hT.f F55) hi2 (fun υ u1 u39 u42 u43 u44 u41 u38 u40 => ?_) (by rw [gI_uJ, gI_o (by omega), gI_o (by omega), gI_o (by omega)]; exact q41) gJ_s
        refine h υ (F55.tr u1) ?_ ?_ ?_ ⟨?_, ?_⟩
        · rw [u42, gI_uJ, gI_o (by omega), gI_o (by omega), gI_o (by omega)]; exact q42
        · rw [u43, gI_uJ, gI_o (by omega), gI_o (by omega), gI_o (by omega)]; exact q43
        · rw [u44, gI_uJ, gI_o (by omega), gI_o (by omega), gI_o (by omega)]; exact q44
        · rw [u39, gI_uJ, gI_o (by omega), gI_o (by omega), gI_s, hpc]
        · rw [← eDc] at u38 u40 u41
          by_cases g : eD b n c - i ≤ 4
          · rw [if_pos g] at etk u38
            refine Or.inr (Or.inl ⟨etk, u38, ?_, ?_, w0⟩)
            · rw [u40 g]
              unfold nvl
              rw [hpc]
            · rw [u41, enx]
          · rw [if_neg g] at etk u38
            exact Or.inr (Or.inr (Or.inr (Or.inr ⟨etk, u38, w0⟩)))
    · rw [isLD cL, cL] at etk enx
      simp only [Bool.false_eq_true, if_false, if_true] at etk enx
      rintro s57 rfl s58 rfl
      have F58 : RF ρ (uJ (uI (uI (uI τ 0 39 (nI i)) 0 38 4) 0 38 1) 0 40 0) := (F38.uI (by omega)).uJ
      refine sR_next107 (hT.f F58) hi2 (fun υ u1 u38 u39 u42 u43 u44 u41 u40 => ?_) (by rw [gI_uJ, gI_o (by omega), gI_o (by omega), gI_o (by omega)]; exact q41) gJ_s
      rw [← eLc] at u40 u41
      refine h υ (F58.tr u1) ?_ ?_ ?_ ⟨?_, Or.inr (Or.inr (Or.inl ⟨etk, ?_, ?_, ?_⟩))⟩
      · rw [u42, gI_uJ, gI_o (by omega), gI_o (by omega), gI_o (by omega)]; exact q42
      · rw [u43, gI_uJ, gI_o (by omega), gI_o (by omega), gI_o (by omega)]; exact q43
      · rw [u44, gI_uJ, gI_o (by omega), gI_o (by omega), gI_o (by omega)]; exact q44
      · rw [u39, gI_uJ, gI_o (by omega), gI_o (by omega), gI_s, hpc]
      · rw [u38, gI_uJ, gI_s]
      · have ewv : wv b n c = if eL b n c - i ≤ 8 then wvl b i (eL b n c - i) else 0 := by unfold wv; rw [hpc]
        by_cases g : eL b n c - i ≤ 8
        · rw [if_pos g] at u40 ewv
          left
          refine ⟨by rw [u40, ewv], ?_⟩
          rw [ewv]
          have hl := wvl_lt (b := b) (p := i) (eL b n c - i) (fun j hj => by
            have := E_in (fun i => isL (b i)) n i (i + j) (by omega) (by rw [← eLc]; omega)
            have z := this.2
            unfold isL at z
            simp at z
            exact z.2)
          have : (27 : Nat) ^ (eL b n c - i) ≤ 27 ^ 8 := Nat.pow_le_pow_right (by decide) g
          have : (27 : Nat) ^ 8 < 2 ^ 63 := by decide
          omega
        · rw [if_neg g] at u40 ewv
          exact Or.inr ⟨u40, ewv⟩
      · rw [u41, enx]
