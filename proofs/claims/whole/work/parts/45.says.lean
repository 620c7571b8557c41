/-! PURE: what a text says, in the class -/
def YF (T : Nat) (ρ τ : St) : Prop := (∀ c j, ¬ ((c = T ∧ j = 4) ∨ c = T + 3) → gI τ c j = gI ρ c j) ∧ (∀ c j, gJ τ c j = gJ ρ c j) ∧ ∀ c j, gR τ c j = gR ρ c j
theorem YF.rf (T : Nat) (ρ : St) : YF T ρ ρ := ⟨fun _ _ _ => rfl, fun _ _ => rfl, fun _ _ => rfl⟩
theorem YF.tr {T : Nat} {ρ τ υ : St} (h : YF T ρ τ) (g : YF T τ υ) : YF T ρ υ := ⟨fun c j n => (g.1 c j n).trans (h.1 c j n), fun c j => (g.2.1 c j).trans (h.2.1 c j), fun c j => (g.2.2 c j).trans (h.2.2 c j)⟩
theorem YF.u4 {T : Nat} {ρ τ : St} (h : YF T ρ τ) {v : Int32} : YF T ρ (uI τ T 4 v) := ⟨fun c j n => by rw [gI_o (by omega)]; exact h.1 c j n, h.2.1, h.2.2⟩
theorem YF.u3 {T : Nat} {ρ τ : St} (h : YF T ρ τ) {k : Nat} {v : Int32} : YF T ρ (uI τ (T + 3) k v) := ⟨fun c j n => by rw [gI_o (by omega)]; exact h.1 c j n, h.2.1, h.2.2⟩
theorem sX_push {T m : Nat} {ids : List Nat} {τ : St} (hm : m < 80) (h4 : gI τ T 4 = nI m) (x : Int32) {post : St → Prop} (h : post (uI (uI τ (T + 3) m x) T 4 (nI (m + 1)))) : wX9_push ids T x τ post := by
  unfold wX9_push
  have e80 : (Int32.ofNat 80 ≤ gI τ T 4) ↔ 80 ≤ m := by
    rw [h4]
    exact nI_leI (a := 80) (by omega) (by omega)
  rw [e80, h4, nI_clamp (by omega)]
  refine df (by omega) ⟨vin hm (by omega), ?_⟩
  rintro _ rfl _ rfl
  rw [gI_o (by omega), h4, nI_1]
  exact h
theorem sX_pop {T m : Nat} {ids : List Nat} {τ : St} (hm : m < 80) (h4 : gI τ T 4 = nI (m + 1)) {post : Int32 → St → Prop} (h : post (gI τ (T + 3) m) (uI τ T 4 (nI m))) : wX9_pop ids T τ post := by
  unfold wX9_pop
  have e0 : gI τ T 4 = 0 ↔ m + 1 = 0 := by
    rw [h4]
    exact nI_eq (b := 0) (by omega) (by omega)
  rw [e0, h4, nI_pred]
  refine dm (by omega) ?_
  rintro _ rfl
  rw [gI_s, nI_clamp (by omega), gI_o (by omega)]
  exact ⟨vin hm (by omega), h⟩
theorem sX_joined {ids : List Nat} {l s r : Int32} (hs : isBn s) {τ : St} {post : Int32 → St → Prop} (h : post (jn l s r) τ) : wX9_joined ids l (-s) r τ post := by
  unfold wX9_joined
  rintro _ rfl
  rcases hs with rfl | rfl | rfl | rfl | rfl | rfl | rfl
  · refine ⟨fun z => absurd z (by decide), fun z => absurd z (by decide), fun z => absurd z (by decide), fun z => absurd z (by decide), fun z => absurd z (by decide), fun _ => ?_, fun z => absurd rfl z.2.2.2.2.2⟩
    have e : jn l (-124) r = if ¬ l = 0 ∨ ¬ r = 0 then 1 else 0 := by unfold jn; rw [if_pos rfl]
    rw [e] at h
    refine ⟨fun z => ?_, fun z => ⟨fun y => ?_, fun y => ?_⟩⟩
    · rw [if_pos (Or.inl z)] at h; exact h
    · rw [if_neg (fun q => by rcases q with q | q; exact q z; exact q y)] at h; exact h
    · rw [if_pos (Or.inr y)] at h; exact h
  · refine ⟨fun _ => ?_, fun z => absurd z (by decide), fun z => absurd z (by decide), fun z => absurd z (by decide), fun z => absurd z (by decide), fun z => absurd z (by decide), fun z => absurd rfl z.1⟩
    have e : jn l (-38) r = if ¬ l = 0 ∧ ¬ r = 0 then 1 else 0 := by unfold jn; rw [if_neg (by decide), if_pos rfl]
    rw [e] at h
    refine ⟨fun z => ?_, fun z => ⟨fun y => ?_, fun y => ?_⟩⟩
    · rw [if_neg (fun q => q.1 z)] at h; exact h
    · rw [if_neg (fun q => q.2 y)] at h; exact h
    · rw [if_pos ⟨z, y⟩] at h; exact h
  · refine ⟨fun z => absurd z (by decide), fun z => absurd z (by decide), fun z => absurd z (by decide), fun _ => ?_, fun z => absurd z (by decide), fun z => absurd z (by decide), fun z => absurd rfl z.2.2.2.1⟩
    have e : jn l (-60) r = if l < r then 1 else 0 := by unfold jn; rw [if_neg (by decide), if_neg (by decide), if_pos rfl]
    rw [e] at h
    refine ⟨fun z => ?_, fun z => ?_⟩
    · rw [if_neg (fun q => by rw [fb_lt] at q; rw [fb_le] at z; omega)] at h; exact h
    · rw [if_pos (by rw [fb_lt]; rw [fb_le] at z; omega)] at h; exact h
  · refine ⟨fun z => absurd z (by decide), fun z => absurd z (by decide), fun z => absurd z (by decide), fun z => absurd z (by decide), fun _ => ?_, fun z => absurd z (by decide), fun z => absurd rfl z.2.2.2.2.1⟩
    have e : jn l (-61) r = if l = r then 1 else 0 := by unfold jn; rw [if_neg (by decide), if_neg (by decide), if_neg (by decide), if_pos rfl]
    rw [e] at h
    refine ⟨fun z => ?_, fun z => ?_⟩
    · rw [if_neg z] at h; exact h
    · rw [if_pos z] at h; exact h
  · refine ⟨fun z => absurd z (by decide), fun _ => ?_, fun z => absurd z (by decide), fun z => absurd z (by decide), fun z => absurd z (by decide), fun z => absurd z (by decide), fun z => absurd rfl z.2.1⟩
    have e : jn l (-43) r = l + r := by unfold jn; rw [if_neg (by decide), if_neg (by decide), if_neg (by decide), if_neg (by decide), if_pos rfl]
    rw [e] at h
    exact h
  · refine ⟨fun z => absurd z (by decide), fun z => absurd z (by decide), fun _ => ?_, fun z => absurd z (by decide), fun z => absurd z (by decide), fun z => absurd z (by decide), fun z => absurd rfl z.2.2.1⟩
    have e : jn l (-45) r = l - r := by unfold jn; rw [if_neg (by decide), if_neg (by decide), if_neg (by decide), if_neg (by decide), if_neg (by decide), if_pos rfl]
    rw [e] at h
    exact h
  · refine ⟨fun z => absurd z (by decide), fun z => absurd z (by decide), fun z => absurd z (by decide), fun z => absurd z (by decide), fun z => absurd z (by decide), fun z => absurd z (by decide), fun _ => ?_⟩
    have e : jn l (-42) r = l * r := by unfold jn; rw [if_neg (by decide), if_neg (by decide), if_neg (by decide), if_neg (by decide), if_neg (by decide), if_neg (by decide)]
    rw [e] at h
    exact h
theorem isUn_lt {s : Int32} (h : isUn s) : s < 0 ∧ s < (-6 : Int32) := by rcases h with rfl | rfl <;> decide
theorem isBn_lt {s : Int32} (h : isBn s) : s < 0 ∧ s < (-6 : Int32) := by rcases h with rfl | rfl | rfl | rfl | rfl | rfl | rfl <;> decide
theorem isBn_n {s : Int32} (h : isBn s) : ¬ -s = (33 : Int32) ∧ ¬ -s = (126 : Int32) := by rcases h with rfl | rfl | rfl | rfl | rfl | rfl | rfl <;> decide
theorem lf_nm {s : Int32} (h : s < 0 ∧ -6 ≤ s) : ∃ j : Nat, j < 6 ∧ (-1 : Int32) - s = nI j := by
  have h1 := h.1
  have h2 := h.2
  rw [fb_lt] at h1
  rw [fb_le] at h2
  have e0 : (0 : Int32).toInt = 0 := by decide
  have e6 : (-6 : Int32).toInt = -6 := by decide
  have c : s.toInt = -1 ∨ s.toInt = -2 ∨ s.toInt = -3 ∨ s.toInt = -4 ∨ s.toInt = -5 ∨ s.toInt = -6 := by omega
  rcases c with c | c | c | c | c | c
  · exact ⟨0, by decide, by rw [show s = -1 from Int32.toInt_inj.mp (c.trans (by decide))]; decide⟩
  · exact ⟨1, by decide, by rw [show s = -2 from Int32.toInt_inj.mp (c.trans (by decide))]; decide⟩
  · exact ⟨2, by decide, by rw [show s = -3 from Int32.toInt_inj.mp (c.trans (by decide))]; decide⟩
  · exact ⟨3, by decide, by rw [show s = -4 from Int32.toInt_inj.mp (c.trans (by decide))]; decide⟩
  · exact ⟨4, by decide, by rw [show s = -5 from Int32.toInt_inj.mp (c.trans (by decide))]; decide⟩
  · exact ⟨5, by decide, by rw [show s = -6 from Int32.toInt_inj.mp (c.trans (by decide))]; decide⟩
theorem sX_says22 {T k e : Nat} {ids : List Nat} {σ : St} (hT : okT ids T) (hk : k < 3) (he : e ≤ 160) (hE : gI σ (T + 2) k = nI e) {post : Int32 → St → Prop} {nm : Nat → Int32} (hnm : ∀ i, i < 6 → gI σ 15 i = nm i) {L : List Int32} {v : Nat} (hL : Ex L v) : Ex L v ∧ 1 ≤ v ∧ ∀ s m τ, m + v ≤ 80 → s + L.length ≤ e → (∀ i, i < L.length → gI σ (T + 1) (s + i) = L.getD i 0) → YF T σ τ → gI τ T 4 = nI m → (∀ τ', YF T σ τ' → gI τ' T 4 = nI (m + 1) → gI τ' (T + 3) m = val nm L → (∀ j, j < m → gI τ' (T + 3) j = gI τ (T + 3) j) → ∃ N, wX9_says_22 ids 15 6 post T (nI k) N (nI (s + L.length)) τ') → ∃ N, wX9_says_22 ids 15 6 post T (nI k) N (nI s) τ := by
  obtain ⟨hT1, hT2, hT3, hT4⟩ := hT
  -- one step
  have step : ∀ s x τ, s < e → gI σ (T + 1) s = x → YF T σ τ → (∃ N, (x < 0 → (x < (-6 : Int32) → wX9_work ids T (-x) τ (fun υ => wX9_says_22 ids 15 6 post T (nI k) N (nI (s + 1)) υ)) ∧ (¬ x < (-6 : Int32) → (vp_in ((-1 : Int32) - x) 6) ∧ wX9_push ids T (gI τ 15 ((-1 : Int32) - x).toNatClampNeg) τ (fun υ => wX9_says_22 ids 15 6 post T (nI k) N (nI (s + 1)) υ))) ∧ (¬ x < 0 → wX9_push ids T x τ (fun υ => wX9_says_22 ids 15 6 post T (nI k) N (nI (s + 1)) υ))) → ∃ N, wX9_says_22 ids 15 6 post T (nI k) N (nI s) τ := by
    rintro s x τ hs hx hF ⟨N, h1, h2⟩
    have k81 : ∀ υ, wX9_says_22 ids 15 6 post T (nI k) N (nI (s + 1)) υ → wX9_says_81 ids 15 6 (wX9_says_22 ids 15 6 post T (nI k) N) post T (nI k) (nI s) υ := by
      rintro υ h _ rfl
      rw [nI_1]
      exact h
    have mono_push : ∀ (y : Int32) (P Q : St → Prop), (∀ υ, P υ → Q υ) → wX9_push ids T y τ P → wX9_push ids T y τ Q := by
      intro y P Q pq h
      refine ⟨fun c => pq _ (h.1 c), fun c => ⟨(h.2 c).1, ?_⟩⟩
      intro s3 e3 s4 e4
      exact pq _ ((h.2 c).2 s3 e3 s4 e4)
    have mono_pop : ∀ (τ : St) (P Q : Int32 → St → Prop), (∀ r υ, P r υ → Q r υ) → wX9_pop ids T τ P → wX9_pop ids T τ Q := by
      intro τ P Q pq h
      refine ⟨fun c s2 e2 => ⟨(h.1 c s2 e2).1, pq _ _ (h.1 c s2 e2).2⟩, fun c => pq _ _ (h.2 c)⟩
    have mono_push' : ∀ (τ : St) (y : Int32) (P Q : St → Prop), (∀ υ, P υ → Q υ) → wX9_push ids T y τ P → wX9_push ids T y τ Q := by
      intro τ y P Q pq h
      refine ⟨fun c => pq _ (h.1 c), fun c => ⟨(h.2 c).1, ?_⟩⟩
      intro s3 e3 s4 e4
      exact pq _ ((h.2 c).2 s3 e3 s4 e4)
    have mono_joined : ∀ (a b c : Int32) (τ : St) (P Q : Int32 → St → Prop), (∀ r υ, P r υ → Q r υ) → wX9_joined ids a b c τ P → wX9_joined ids a b c τ Q := by
      intro a b c τ P Q pq h v hv
      obtain ⟨j1, j2, j3, j4, j5, j6, j7⟩ := h v hv
      refine ⟨fun z => ⟨fun y => pq _ _ ((j1 z).1 y), fun y => ⟨fun w => pq _ _ (((j1 z).2 y).1 w), fun w => pq _ _ (((j1 z).2 y).2 w)⟩⟩, fun z => pq _ _ (j2 z), fun z => pq _ _ (j3 z), fun z => ⟨fun y => pq _ _ ((j4 z).1 y), fun y => pq _ _ ((j4 z).2 y)⟩, fun z => ⟨fun y => pq _ _ ((j5 z).1 y), fun y => pq _ _ ((j5 z).2 y)⟩, fun z => ⟨fun y => pq _ _ ((j6 z).1 y), fun y => ⟨fun w => pq _ _ (((j6 z).2 y).1 w), fun w => pq _ _ (((j6 z).2 y).2 w)⟩⟩, fun z => pq _ _ (j7 z)⟩
    have mono_work : ∀ (y : Int32) (P Q : St → Prop), (∀ υ, P υ → Q υ) → wX9_work ids T y τ P → wX9_work ids T y τ Q := by
      intro y P Q pq h
      refine mono_pop τ _ _ (fun r υ g => ?_) h
      intro v hv
      obtain ⟨g1, g2, g3⟩ := g v hv
      refine ⟨fun z => ⟨fun w => mono_push' _ _ _ _ pq ((g1 z).1 w), fun w => mono_push' _ _ _ _ pq ((g1 z).2 w)⟩, fun z => mono_push' _ _ _ _ pq (g2 z), fun z => mono_pop _ _ _ (fun l υ2 g4 => mono_joined _ _ _ _ _ _ (fun q υ3 g5 => mono_push' _ _ _ _ pq g5) g4) (g3 z)⟩
    refine ⟨N + 1, ?_⟩
    rw [wX9_says_22_s]
    have ee : gI τ (T + 2) (nI k).toNatClampNeg = nI e := by
      rw [nI_clamp (by omega), hF.1 _ _ (by omega)]
      exact hE
    have es : gI τ (T + 1) (nI s).toNatClampNeg = x := by
      rw [nI_clamp (by omega), hF.1 _ _ (by omega)]
      exact hx
    rw [ee, nI_leI (by omega) (by omega), es]
    refine ⟨vin hk (by omega), fun z => by omega, fun _ => ⟨vin (by omega) (by omega), ?_⟩⟩
    rintro _ rfl
    refine ⟨fun c => ⟨fun c2 => mono_work _ _ _ k81 ((h1 c).1 c2), fun c2 => ⟨((h1 c).2 c2).1, mono_push _ _ _ k81 ((h1 c).2 c2).2⟩⟩, fun c => mono_push _ _ _ k81 (h2 c)⟩
  refine hL (fun L v => Ex L v ∧ 1 ≤ v ∧ ∀ s m τ, m + v ≤ 80 → s + L.length ≤ e → (∀ i, i < L.length → gI σ (T + 1) (s + i) = L.getD i 0) → YF T σ τ → gI τ T 4 = nI m → (∀ τ', YF T σ τ' → gI τ' T 4 = nI (m + 1) → gI τ' (T + 3) m = val nm L → (∀ j, j < m → gI τ' (T + 3) j = gI τ (T + 3) j) → ∃ N, wX9_says_22 ids 15 6 post T (nI k) N (nI (s + L.length)) τ') → ∃ N, wX9_says_22 ids 15 6 post T (nI k) N (nI s) τ) ?_ ?_ ?_
  · intro x hx
    refine ⟨Ex_l hx, Nat.le_refl 1, fun s m τ hm hs hst hF h4 h => ?_⟩
    rw [List.length_singleton] at hs hst h
    have e0 : gI σ (T + 1) s = x := hst 0 (by omega)
    have pu : ∀ y : Int32, y = lv nm x → ∃ N, wX9_push ids T y τ (fun υ => wX9_says_22 ids 15 6 post T (nI k) N (nI (s + 1)) υ) := by
      rintro y rfl
      obtain ⟨N, hN⟩ := h (uI (uI τ (T + 3) m (lv nm x)) T 4 (nI (m + 1))) hF.u3.u4 gI_s (by rw [gI_o (by omega), gI_s, val_l nm hx]) (fun j hj => by rw [gI_o (by omega), gI_o (by omega)])
      exact ⟨N, sX_push (by omega) h4 _ hN⟩
    refine step s x τ (by omega) e0 hF ?_
    by_cases c : (0 : Int32) ≤ x
    · obtain ⟨N, hN⟩ := pu x (by unfold lv; rw [if_pos c])
      have nc : ¬ x < 0 := fun z => by rw [fb_lt] at z; rw [fb_le] at c; omega
      exact ⟨N, fun z => absurd z nc, fun _ => hN⟩
    · have hx2 : x < 0 ∧ -6 ≤ x := by
        rcases hx with hx | hx
        · exact absurd hx.1 c
        · exact hx
      obtain ⟨j, hj, ej⟩ := lf_nm hx2
      have n6 : ¬ x < (-6 : Int32) := fun z => by have := hx2.2; rw [fb_lt] at z; rw [fb_le] at this; omega
      obtain ⟨N, hN⟩ := pu (nm j) (by unfold lv; rw [if_neg c, ej, nI_clamp (by omega)])
      refine ⟨N, fun _ => ⟨fun z => absurd z n6, fun _ => ?_⟩, fun z => absurd hx2.1 z⟩
      rw [ej, nI_clamp (by omega), hF.1 _ _ (by omega), hnm j hj]
      exact ⟨vin hj (by omega), hN⟩
  · rintro L v x hx ⟨hE1, hv, ih⟩
    refine ⟨Ex_u hx hE1, hv, fun s m τ hm hs hst hF h4 h => ?_⟩
    rw [List.length_append, List.length_singleton] at hs hst h
    refine ih s m τ hm (by omega) (fun i hi => by rw [hst i (by omega), gd_l hi]) hF h4 (fun τ1 F1 c1 v1 p1 => ?_)
    have e0 : gI σ (T + 1) (s + L.length) = x := by
      rw [hst L.length (by omega)]
      exact gd_r (i := 0)
    refine step (s + L.length) x τ1 (by omega) e0 F1 ?_
    obtain ⟨N, hN⟩ := h (uI (uI (uI τ1 T 4 (nI m)) (T + 3) m (un x (val nm L))) T 4 (nI (m + 1))) F1.u4.u3.u4 gI_s (by rw [gI_o (by omega), gI_s]; exact (val_u nm hx hE1).symm) (fun j hj => by rw [gI_o (by omega), gI_o (by omega), gI_o (by omega)]; exact p1 j hj)
    refine ⟨N, fun _ => ⟨fun _ => ?_, fun z => absurd (isUn_lt hx).2 z⟩, fun z => absurd (isUn_lt hx).1 z⟩
    refine sX_pop (m := m) (by omega) c1 ?_
    rw [v1]
    rintro _ rfl
    have pu : ∀ y : Int32, y = un x (val nm L) → wX9_push ids T y (uI τ1 T 4 (nI m)) (fun υ => wX9_says_22 ids 15 6 post T (nI k) N (nI (s + L.length + 1)) υ) := by
      rintro y rfl
      exact sX_push (by omega) gI_s _ hN
    rcases hx with rfl | rfl
    · have eu : un (-33) (val nm L) = if val nm L = 0 then 1 else 0 := by unfold un; rw [if_pos rfl]
      refine ⟨fun _ => ⟨fun z => pu _ (by rw [eu, if_neg z]), fun z => pu _ (by rw [eu, if_pos z])⟩, fun z => absurd z (by decide), fun z => absurd rfl z.1⟩
    · have eu : un (-126) (val nm L) = -(val nm L) := by unfold un; rw [if_neg (by decide)]
      refine ⟨fun z => absurd z (by decide), fun _ => pu _ eu.symm, fun z => absurd rfl z.2⟩
  · rintro L1 L2 v1 v2 x hx ⟨hE1, hv1, ih1⟩ ⟨hE2, hv2, ih2⟩
    refine ⟨Ex_b hx hE1 hE2, by omega, fun s m τ hm hs hst hF h4 h => ?_⟩
    rw [List.length_append, List.length_append, List.length_singleton] at hs hst h
    refine ih1 s m τ (by omega) (by omega) (fun i hi => by rw [hst i (by omega), gd_l (by rw [List.length_append]; omega), gd_l hi]) hF h4 (fun τ1 F1 c1 w1 p1 => ?_)
    refine ih2 (s + L1.length) (m + 1) τ1 (by omega) (by omega) (fun i hi => ?_) F1 c1 (fun τ2 F2 c2 w2 p2 => ?_)
    · have := hst (L1.length + i) (by omega)
      rw [← Nat.add_assoc] at this
      rw [this, gd_l (by rw [List.length_append]; omega), gd_r]
    have e0 : gI σ (T + 1) (s + L1.length + L2.length) = x := by
      have := hst (L1.length + L2.length) (by omega)
      rw [← Nat.add_assoc] at this
      rw [this]
      have g := gd_r (L := L1 ++ L2) (M := [x]) (i := 0) (d := 0)
      rw [List.length_append, Nat.add_zero] at g
      exact g
    refine step (s + L1.length + L2.length) x τ2 (by omega) e0 F2 ?_
    obtain ⟨N, hN⟩ := h (uI (uI (uI (uI τ2 T 4 (nI (m + 1))) T 4 (nI m)) (T + 3) m (jn (val nm L1) x (val nm L2))) T 4 (nI (m + 1))) F2.u4.u4.u3.u4 gI_s (by rw [gI_o (by omega), gI_s]; exact (val_b nm hx hE1 hE2).symm) (fun j hj => by rw [gI_o (by omega), gI_o (by omega), gI_o (by omega), gI_o (by omega), p2 j (by omega)]; exact p1 j hj)
    have en : s + (L1.length + L2.length + 1) = s + L1.length + L2.length + 1 := by omega
    rw [en] at hN
    refine ⟨N, fun _ => ⟨fun _ => ?_, fun z => absurd (isBn_lt hx).2 z⟩, fun z => absurd (isBn_lt hx).1 z⟩
    refine sX_pop (m := m + 1) (by omega) c2 ?_
    rw [w2]
    rintro _ rfl
    obtain ⟨n1, n2⟩ := isBn_n hx
    refine ⟨fun z => absurd z n1, fun z => absurd z n2, fun _ => ?_⟩
    refine sX_pop (m := m) (by omega) gI_s ?_
    rw [gI_o (by omega), p2 m (by omega), w1]
    exact sX_joined hx (sX_push (by omega) gI_s _ hN)
/-- a text's part, over the names' values -/
theorem sX_says {t k : Nat} {ids : List Nat} {σ : St} (hT : okT ids (20 + 4 * t)) (hk : k < 3) {L0 L1 L2 : List Int32} (hX : TXt L0 L1 L2 σ t) (hl : (L0 ++ L1 ++ L2).length ≤ 160) (h0 : ∃ v, Ex L0 v ∧ v ≤ 80) (h1 : ∃ v, Ex L1 v ∧ v ≤ 80) (h2 : ∃ v, Ex L2 v ∧ v ≤ 80) {nm : Nat → Int32} (hnm : ∀ i, i < 6 → gI σ 15 i = nm i) {post : Int32 → St → Prop} (h : ∀ τ, YF (20 + 4 * t) σ τ → post (val nm (if k = 0 then L0 else if k = 1 then L1 else L2)) τ) : wX9_says ids (20 + 4 * t) (nI k) 15 6 σ post := by
  have hT3 := hT.2.2.1
  obtain ⟨x1, x2, x3, x4⟩ := hX
  have s22 : 22 + 4 * t = 20 + 4 * t + 2 := by omega
  have s21 : 21 + 4 * t = 20 + 4 * t + 1 := by omega
  rw [s22] at x2 x3 x4
  rw [s21] at x1
  have F0 : YF (20 + 4 * t) σ (uI σ (20 + 4 * t) 4 0) := (YF.rf _ σ).u4
  -- a part from s on
  have go : ∀ (L : List Int32) (s : Nat), (∃ v, Ex L v ∧ v ≤ 80) → s + L.length ≤ 160 → gI σ (20 + 4 * t + 2) k = nI (s + L.length) → (∀ i, i < L.length → gI σ (20 + 4 * t + 1) (s + i) = L.getD i 0) → (∀ τ, YF (20 + 4 * t) σ τ → post (val nm L) τ) → ∃ N, wX9_says_22 ids 15 6 post (20 + 4 * t) (nI k) N (nI s) (uI σ (20 + 4 * t) 4 0) := by
    rintro L s ⟨v, hE, hv⟩ hs he hst hp
    refine (sX_says22 hT hk hs he hnm hE).2.2 s 0 _ (by omega) (Nat.le_refl _) hst F0 gI_s (fun τ F c4 cv _ => ⟨1, ?_⟩)
    rw [wX9_says_22_s]
    have ee : gI τ (20 + 4 * t + 2) (nI k).toNatClampNeg = nI (s + L.length) := by
      rw [nI_clamp (by omega), F.1 _ _ (by omega)]
      exact he
    rw [ee]
    refine ⟨vin hk (by omega), fun _ => sX_pop (m := 0) (by omega) c4 ?_, fun z => absurd ((nI_leI (by omega) (by omega)).mpr (Nat.le_refl _)) z⟩
    rw [cv]
    exact hp _ F.u4
  have l2 : (L0 ++ L1 ++ L2).length = L0.length + L1.length + L2.length := by rw [List.length_append, List.length_append]
  have l1 : (L0 ++ L1).length = L0.length + L1.length := by rw [List.length_append]
  rw [l1] at x3
  rw [l2] at x4 x1 hl
  unfold wX9_says
  rintro _ rfl
  have k3 : k = 0 ∨ k = 1 ∨ k = 2 := by omega
  rcases k3 with rfl | rfl | rfl
  · refine dn rfl ?_
    exact go L0 0 h0 (by omega) (by rw [x2, Nat.zero_add]) (fun i hi => by rw [Nat.zero_add, x1 i (by omega), gd_l (by rw [List.length_append]; omega), gd_l hi]) h
  · refine dm (by decide) ⟨vin (i := 0) (by omega) (by omega), ?_⟩
    have e : gI (uI σ (20 + 4 * t) 4 0) (20 + 4 * t + 2) ((nI 1) - (1 : Int32)).toNatClampNeg = nI L0.length := by
      have e1 : ((nI 1) - (1 : Int32)).toNatClampNeg = 0 := by decide
      rw [e1, gI_o (by omega)]
      exact x2
    rw [e]
    exact go L1 L0.length h1 (by omega) x3 (fun i hi => by rw [x1 _ (by omega), gd_l (by rw [List.length_append]; omega), gd_r]) h
  · refine dm (by decide) ⟨vin (i := 1) (by omega) (by omega), ?_⟩
    have e : gI (uI σ (20 + 4 * t) 4 0) (20 + 4 * t + 2) ((nI 2) - (1 : Int32)).toNatClampNeg = nI (L0.length + L1.length) := by
      have e1 : ((nI 2) - (1 : Int32)).toNatClampNeg = 1 := by decide
      rw [e1, gI_o (by omega)]
      exact x3
    rw [e]
    refine go L2 (L0.length + L1.length) h2 (by omega) x4 (fun i hi => ?_) h
    rw [x1 _ (by omega)]
    have g := gd_r (L := L0 ++ L1) (M := L2) (i := i) (d := 0)
    rw [l1] at g
    exact g
