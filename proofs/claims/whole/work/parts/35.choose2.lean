/-! PURE: the reference's ways; choose, lay -/
def bR (W : Vw) (o : Option Nat) (τ : St) : Prop := match o with
  | none => gI τ 0 53 = -1
  | some w => gI τ 0 53 = nI (wl W (fbn W) (fw (W 0 5) (fbn W) w)) ∧ gI τ 0 54 = nI (cgn W (fw (W 0 5) (fbn W) w) (fbn W)) ∧ ∀ k, k < fbn W → gI τ 24 k = nI (fw (W 0 5) (fbn W) w k)
theorem bR_cg {W : Vw} {o : Option Nat} {τ υ : St} (h : bR W o τ) (h3 : gI υ 0 53 = gI τ 0 53) (h4 : gI υ 0 54 = gI τ 0 54) (h24 : ∀ k, k < fbn W → gI υ 24 k = gI τ 24 k) : bR W o υ := by
  unfold bR at h ⊢
  cases o with
  | none => rw [h3]; exact h
  | some w =>
    simp only at h ⊢
    rw [h3, h4]
    exact ⟨h.1, h.2.1, fun k hk => by rw [h24 k hk]; exact h.2.2 k hk⟩
def rX (W : Vw) (ρ : St) (o : Option Nat) (τ : St) : Prop := (∀ c k, ¬ scR c k → ¬ (c = 17 ∧ k < fbn W) → gI τ c k = gI ρ c k) ∧ (∀ k, k < fbn W → gI τ 23 k = nI (W 19 k)) ∧ bR W o τ
theorem sR_chosen {W : Vw} {τ : St} (hv : Iv W) (hb : gI τ 0 28 = nI (W 0 4)) {post : Int32 → St → Prop} (h : post (nI (fbn W)) τ) : wX12_chosen τ post := by
  have hc := hv.c
  have e4 : ((4 : Int32) ≤ nI (W 0 4)) ↔ 4 ≤ W 0 4 := nI_leI (a := 4) (by omega) (by omega)
  unfold wX12_chosen
  rw [hb, e4]
  by_cases z : 4 ≤ W 0 4
  · refine dt z ?_
    have e : fbn W = 4 := by unfold fbn; rw [if_neg (by omega)]
    rw [e] at h
    exact h
  · refine df z ?_
    have e : fbn W = W 0 4 := by unfold fbn; rw [if_pos (by omega)]
    rw [e] at h
    exact h
/-- one way of the reference -/
theorem sR_way {W : Vw} {ρ : St} (hv : Iv W) (hd : Dv W) (hR : RR W ρ) {w : Nat} (hw : w < 20737) {o : Option Nat} {k46 : Int32 → St → Prop} {post : Int32 → St → Prop} {x2 : Int32} (h : ∀ υ, rX W ρ (bst W o w) υ → k46 (nI (w + 1)) υ) : ∀ (m : Nat) (τ : St), m ≤ fbn W → rX W ρ o τ → (∀ k, m ≤ k → k < fbn W → gI τ 17 k = nI (fw (W 0 5) (fbn W) w k)) → ∃ N, wX12_chooses_62 k46 post (nI (fbn W)) x2 (nI w) N (nI (w / W 0 5 ^ (fbn W - m))) (nI (cgn W (fw (W 0 5) (fbn W) w) (fbn W) - cgn W (fw (W 0 5) (fbn W) w) m)) (nI m - 1) τ := by
  have hc := hv.c
  have hdc := hd.1
  obtain ⟨n1, n2, n3⟩ := fbn_r W
  obtain ⟨hM, hD, hI, hT⟩ := hR
  intro m
  induction m with
  | zero =>
    intro τ hm ht h17
    refine ⟨1, ?_⟩
    rw [wX12_chooses_62_s]
    have c0 : cgn W (fw (W 0 5) (fbn W) w) 0 = 0 := rfl
    rw [c0, Nat.sub_zero, nI_0]
    refine dt (by decide) ?_
    obtain ⟨t1, t2, t3⟩ := ht
    have hf : ∀ k, k < fbn W → fw (W 0 5) (fbn W) w k < W 0 5 := fun k hk => fw_lt (D_pos hd (k := k) (by omega)) _ _ _
    have hwl := wl_le hv (fbn W) (fw (W 0 5) (fbn W) w)
    have hcg := cgn_le W (fw (W 0 5) (fbn W) w) (fbn W)
    obtain ⟨ma, mb⟩ := wa_mr hv hd hM hD hf t1 (fun k hk => h17 k (Nat.zero_le _) hk)
    have hva := wa_iv hv hd hf
    have w0 : ∀ y, wa W (fbn W) (fw (W 0 5) (fbn W) w) 0 y = W 0 y := fun y => wa_o (by omega)
    have w18 : ∀ y, wa W (fbn W) (fw (W 0 5) (fbn W) w) 18 y = W 18 y := fun y => wa_o (by omega)
    refine sR_anyTwice hva (by rw [w0]; omega) (fun k hk => ?_) ma (by rw [w0, t1 _ _ (by unfold scR; omega) (by omega)]; exact hD.1) (fun k hk => mb k (by rw [w0] at hk; exact hk)) ?_
    · rw [w0] at hk
      rw [w0, w18]
      exact Gd_A hd hf k hk
    · have eg : (nn (wa W (fbn W) (fw (W 0 5) (fbn W) w) 0 4) (fun k => decide (wa W (fbn W) (fw (W 0 5) (fbn W) w) 18 k = wa W (fbn W) (fw (W 0 5) (fbn W) w) 19 k)) && nn (wa W (fbn W) (fw (W 0 5) (fbn W) w) 0 5) (tw (wa W (fbn W) (fw (W 0 5) (fbn W) w)))) = gd W (fbn W) (fw (W 0 5) (fbn W) w) := by
        unfold gd
        rw [w0, w0]
        simp only [w18]
      rw [eg]
      have skip : ∀ υ, bst W o w = o → rX W ρ o υ → wX12_chooses_210 k46 post (nI (fbn W)) x2 (nI w) υ := by
        rintro υ e hυ v rfl
        rw [nI_1]
        exact h υ (by rw [e]; exact hυ)
      refine bI_d (fun bg => ?_) (fun bg => ?_)
      · have bg' : gd W (fbn W) (fw (W 0 5) (fbn W) w) = true := by
          cases hg : gd W (fbn W) (fw (W 0 5) (fbn W) w)
          · rw [hg] at bg; exact absurd bg (by decide)
          · rfl
        refine sR_wells22 hva ma (fun υ he hS => ?_)
        have e3 := w0 3
        rw [e3]
        have keep : ∀ c k, ¬ scR c k → ¬ (c = 17 ∧ k < fbn W) → gI υ c k = gI ρ c k := fun c k g1 g2 => (he c k (fun z => g1 (Or.inl z))).trans (t1 c k g1 g2)
        have k23 : ∀ k, k < fbn W → gI υ 23 k = nI (W 19 k) := fun k hk => (he 23 k (by omega)).trans (t2 k hk)
        have hbu : bR W o υ := bR_cg t3 (he _ _ (by omega)) (he _ _ (by omega)) (fun k _ => he _ _ (by omega))
        have ew : ct (W 0 3) (mW (wa W (fbn W) (fw (W 0 5) (fbn W) w))) = wl W (fbn W) (fw (W 0 5) (fbn W) w) := rfl
        rw [ew]
        have take : bst W o w = some w → wX12_chooses_169 k46 post (nI (fbn W)) x2 (nI w) (nI (cgn W (fw (W 0 5) (fbn W) w) (fbn W))) (nI (wl W (fbn W) (fw (W 0 5) (fbn W) w))) υ := by
          rintro e s14 rfl s15 rfl
          refine lpc1 (wX12_chooses_184 k46 post (nI (fbn W)) x2 (nI w)) (fbn W) (by omega) (fun i υ1 => (∀ c k, ¬ c = 24 → gI υ1 c k = gI (uI (uI υ 0 53 (nI (wl W (fbn W) (fw (W 0 5) (fbn W) w)))) 0 54 (nI (cgn W (fw (W 0 5) (fbn W) w) (fbn W)))) c k) ∧ ∀ k, k < i → gI υ1 24 k = nI (fw (W 0 5) (fbn W) w k)) ?_ ?_ _ ⟨fun _ _ _ => rfl, fun k hk => absurd hk (Nat.not_lt_zero _)⟩
          · rintro n υ1 ⟨u1, u2⟩
            rw [wX12_chooses_184_s]
            refine dt (nI_le (Nat.le_refl _) (by omega)) ?_
            rintro v rfl
            rw [nI_1]
            refine h υ1 ?_
            rw [e]
            refine ⟨fun c k g1 g2 => ?_, fun k hk => ?_, ?_, ?_, u2⟩
            · rw [u1 c k (fun z => g1 (by unfold scR; omega)), gI_o (fun z => g1 (by unfold scR; omega)), gI_o (fun z => g1 (by unfold scR; omega))]
              exact keep c k g1 g2
            · rw [u1 _ _ (by omega), gI_o (by omega), gI_o (by omega)]
              exact k23 k hk
            · rw [u1 _ _ (by omega), gI_o (by omega), gI_s]
            · rw [u1 _ _ (by omega), gI_s]
          · rintro n i υ1 hi ⟨u1, u2⟩ kk
            rw [wX12_chooses_184_s]
            refine df (nI_ge hi (by omega)) ⟨vin (by omega) (by omega), vin (by omega) (by omega), ?_⟩
            rw [nI_clamp (by omega), u1 17 i (by omega), gI_o (by omega), gI_o (by omega), he 17 i (by omega), h17 i (Nat.zero_le _) hi]
            rintro s12 rfl v rfl
            rw [nI_1]
            refine kk _ ⟨fun c k hk => by rw [gI_o (by omega)]; exact u1 c k hk, fun k hk => ?_⟩
            by_cases e : k = i
            · subst e; rw [gI_s]
            · rw [gI_o (by omega)]; exact u2 k (by omega)
        cases o with
        | none =>
          have e53 : gI υ 0 53 = -1 := hbu
          rw [e53]
          refine df ?_ (dm (fun z => ne_m1 (by omega) z) (take (by unfold bst; rw [if_pos bg'])))
          rw [fb_lt, fb_nI (by omega)]
          have : (-1 : Int32).toInt = -1 := by decide
          omega
        | some u =>
          have hwu := wl_le hv (fbn W) (fw (W 0 5) (fbn W) u)
          have hcu := cgn_le W (fw (W 0 5) (fbn W) u) (fbn W)
          rw [hbu.1, hbu.2.1, nI_ltI (by omega) (by omega), nI_eq (by omega) (by omega), nI_ltI (by omega) (by omega)]
          have es : bst W (some u) w = if wl W (fbn W) (fw (W 0 5) (fbn W) u) < wl W (fbn W) (fw (W 0 5) (fbn W) w) ∨ (wl W (fbn W) (fw (W 0 5) (fbn W) w) = wl W (fbn W) (fw (W 0 5) (fbn W) u) ∧ cgn W (fw (W 0 5) (fbn W) w) (fbn W) < cgn W (fw (W 0 5) (fbn W) u) (fbn W)) then some w else some u := by
            unfold bst
            rw [if_pos bg']
          have hself : rX W ρ (some u) υ := ⟨keep, k23, hbu⟩
          refine ⟨fun c => skip υ (by rw [es, if_neg (by omega)]) hself, fun c => ⟨fun c2 => take (by rw [es, if_pos (by omega)]), fun c2 => ⟨fun c3 => take (by rw [es, if_pos (Or.inr ⟨c2, c3⟩)]), fun c3 => skip υ (by rw [es, if_neg (by omega)]) hself⟩⟩⟩
      · have bg' : gd W (fbn W) (fw (W 0 5) (fbn W) w) = false := by
          cases hg : gd W (fbn W) (fw (W 0 5) (fbn W) w)
          · rfl
          · rw [hg] at bg; exact absurd bg (by decide)
        exact skip τ (by unfold bst; rw [bg']; rfl) ⟨t1, t2, t3⟩
  | succ m ih =>
    intro τ hm ht h17
    obtain ⟨t1, t2, t3⟩ := ht
    have hmb : m < W 0 4 := by omega
    have hD0 := D_pos hd hmb
    have hDl : W 0 5 < 2 ^ 31 := by omega
    have e20 : gI τ 0 20 = nI (W 0 5) := (t1 _ _ (by unfold scR; omega) (by omega)).trans hD.1
    have wb : w / W 0 5 ^ (fbn W - (m + 1)) < 2 ^ 31 := Nat.lt_of_le_of_lt (Nat.div_le_self _ _) (by omega)
    have qr := nI_qr (w := w / W 0 5 ^ (fbn W - (m + 1))) (d := W 0 5) wb hDl
    have ed : w / W 0 5 ^ (fbn W - (m + 1)) % W 0 5 = fw (W 0 5) (fbn W) w m := by
      unfold fw
      rw [show fbn W - (m + 1) = fbn W - 1 - m by omega]
    have ed2 : w / W 0 5 ^ (fbn W - (m + 1)) / W 0 5 = w / W 0 5 ^ (fbn W - m) := by
      have e' : fbn W - m = fbn W - (m + 1) + 1 := by omega
      rw [Nat.div_div_eq_div_mul, e', Nat.pow_succ]
    have hfl : fw (W 0 5) (fbn W) w m < W 0 5 := fw_lt hD0 _ _ _
    have hdm := hd.2.2.2.1 m hmb
    have nt : rX W ρ o (uI τ 17 m (nI (fw (W 0 5) (fbn W) w m))) := ⟨fun c k g1 g2 => by rw [gI_o (by omega)]; exact t1 c k g1 g2, fun k hk => by rw [gI_o (by omega)]; exact t2 k hk, bR_cg t3 (gI_o (by omega)) (gI_o (by omega)) (fun k _ => gI_o (by omega))⟩
    obtain ⟨N, hN⟩ := ih (uI τ 17 m (nI (fw (W 0 5) (fbn W) w m))) (by omega) nt (fun k h1 h2 => by
      by_cases e : k = m
      · subst e; rw [gI_s]
      · rw [gI_o (by omega)]; exact h17 k (by omega) h2)
    refine ⟨N + 1, ?_⟩
    rw [wX12_chooses_62_s, nI_pred]
    refine df (nI_pos (by omega)) ?_
    rw [e20]
    refine ⟨nI_ne0 hD0 hDl, vin (by omega) (by omega), ?_⟩
    rw [qr.2, ed, nI_clamp (by omega)]
    rintro s30 rfl
    have e20' : gI (uI τ 17 m (nI (fw (W 0 5) (fbn W) w m))) 0 20 = nI (W 0 5) := by rw [gI_o (by omega)]; exact e20
    rw [e20', qr.1, ed2]
    refine ⟨nI_ne0 hD0 hDl, ?_⟩
    rintro v32 rfl
    refine ⟨vin (by omega) (by omega), ?_⟩
    rw [gI_s, gI_o (by omega), t2 m (by omega), nI_eq (by omega) (by omega)]
    have em : (-1 : Int32) = 0 - 1 := by decide
    have go : ∀ x, x = (if fw (W 0 5) (fbn W) w m = W 19 m then 0 else 1) → wX12_chooses_114 k46 (fun a b c s => wX12_chooses_62 k46 post (nI (fbn W)) x2 (nI w) N a b c s) post (nI (fbn W)) x2 (nI w) (nI (w / W 0 5 ^ (fbn W - m))) (nI m) (nI (cgn W (fw (W 0 5) (fbn W) w) (fbn W) - cgn W (fw (W 0 5) (fbn W) w) (m + 1))) (nI x) (uI τ 17 m (nI (fw (W 0 5) (fbn W) w m))) := by
      rintro x ex v17 rfl v18 rfl
      have hmono : cgn W (fw (W 0 5) (fbn W) w) (m + 1) ≤ cgn W (fw (W 0 5) (fbn W) w) (fbn W) := by
        have key : ∀ t, cgn W (fw (W 0 5) (fbn W) w) (m + 1) ≤ cgn W (fw (W 0 5) (fbn W) w) (m + 1 + t) := by
          intro t
          induction t with
          | zero => exact Nat.le_refl _
          | succ t ih2 =>
            have s1 := cgn_s W (fw (W 0 5) (fbn W) w) (m + 1 + t)
            show cgn W (fw (W 0 5) (fbn W) w) (m + 1) ≤ cgn W (fw (W 0 5) (fbn W) w) (m + 1 + t + 1)
            rw [s1]
            exact Nat.le_trans ih2 (Nat.le_add_right _ _)
        have := key (fbn W - (m + 1))
        rw [show m + 1 + (fbn W - (m + 1)) = fbn W by omega] at this
        exact this
      have ec : cgn W (fw (W 0 5) (fbn W) w) (m + 1) = cgn W (fw (W 0 5) (fbn W) w) m + x := by rw [cgn_s, ex]
      have e2 : nI m + -1 = nI m - 1 := by rw [Int32.sub_eq_add_neg]
      rw [nI_add, e2]
      have e3 : cgn W (fw (W 0 5) (fbn W) w) (fbn W) - cgn W (fw (W 0 5) (fbn W) w) (m + 1) + x = cgn W (fw (W 0 5) (fbn W) w) (fbn W) - cgn W (fw (W 0 5) (fbn W) w) m := by omega
      rw [e3]
      exact hN
    by_cases e : fw (W 0 5) (fbn W) w m = W 19 m
    · exact dn e (go 0 (by rw [if_pos e]))
    · exact dm e (go 1 (by rw [if_neg e]))
theorem sR_chooses {W : Vw} {ρ : St} (hv : Iv W) (hd : Dv W) (hR : RR W ρ) {post : Int32 → St → Prop} (h : ∀ τ, EqR ρ τ → bR W (oW W) τ → post (bI (oW W).isSome) τ) : wX12_chooses ρ post := by
  have hc := hv.c
  have hdc := hd.1
  obtain ⟨n1, n2, n3⟩ := fbn_r W
  have hR' := hR
  obtain ⟨hM, hD, hI, hT⟩ := hR
  have pw : W 0 5 ^ fbn W ≤ 20736 := by
    have h1 : W 0 5 ^ fbn W ≤ 12 ^ fbn W := Nat.pow_le_pow_left hdc.1 _
    have h2 : 12 ^ fbn W ≤ 12 ^ 4 := Nat.pow_le_pow_right (by decide) n1
    have h3 : (12 : Nat) ^ 4 = 20736 := by decide
    omega
  refine sR_chosen hv hM.bs ?_
  have one : (1 : Int32) = nI (W 0 5 ^ 0) := rfl
  rw [one]
  refine lpc2 (wX12_chooses_9 post (nI (fbn W))) (fbn W) (by omega) (fun i v τ => (∀ c k, ¬ c = 23 → gI τ c k = gI ρ c k) ∧ v = nI (W 0 5 ^ i) ∧ ∀ k, k < i → gI τ 23 k = nI (W 19 k)) ?_ ?_ _ ρ ⟨fun _ _ _ => rfl, rfl, fun k hk => absurd hk (Nat.not_lt_zero _)⟩
  · rintro n v τ ⟨t1, rfl, t2⟩
    rw [wX12_chooses_9_s]
    refine dt (nI_le (Nat.le_refl _) (by omega)) ?_
    rintro s41 rfl
    refine lpc1 (wX12_chooses_46 post (nI (fbn W)) (nI (W 0 5 ^ fbn W))) (W 0 5 ^ fbn W) (by omega) (fun w υ => rX W ρ (fo W 0 w none) υ) ?_ ?_ _ ⟨fun c k g1 g2 => by rw [gI_o (fun z => g1 (by unfold scR; omega))]; exact t1 c k (fun z => g1 (by unfold scR; omega)), fun k hk => by rw [gI_o (by omega)]; exact t2 k hk, gI_s⟩
    · rintro m υ ⟨u1, u2, u3⟩
      rw [wX12_chooses_46_s]
      refine dt (nI_le (Nat.le_refl _) (by omega)) ?_
      refine lpc1 (wX12_chooses_218 post (nI (fbn W))) (fbn W) (by omega) (fun i υ1 => (∀ c k, ¬ (c = 17 ∧ k < fbn W) → gI υ1 c k = gI υ c k) ∧ ∀ k, k < i → gI υ1 17 k = nI (W 19 k)) ?_ ?_ υ ⟨fun _ _ _ => rfl, fun k hk => absurd hk (Nat.not_lt_zero _)⟩
      · rintro n υ1 ⟨w1, w2⟩
        rw [wX12_chooses_218_s]
        have e1 : EqR ρ υ1 := by
          intro c k g1
          by_cases z : c = 17 ∧ k < fbn W
          · rw [z.1, w2 k z.2]
            exact ((hD.2.2.1 k (by omega)).2).symm
          · rw [w1 c k z]
            exact u1 c k g1 z
        have hb : bR W (oW W) υ1 := bR_cg u3 (w1 _ _ (by omega)) (w1 _ _ (by omega)) (fun k _ => w1 _ _ (by omega))
        have hp := h υ1 e1 hb
        refine dt (nI_le (Nat.le_refl _) (by omega)) ?_
        cases ho : oW W with
        | none =>
          rw [ho] at hb hp
          exact dt hb ⟨isB_0, hp⟩
        | some u =>
          rw [ho] at hb hp
          refine df ?_ ⟨isB_1, hp⟩
          rw [hb.1]
          exact ne_m1 (by have := wl_le hv (fbn W) (fw (W 0 5) (fbn W) u); omega)
      · rintro n i υ1 hi ⟨w1, w2⟩ kk
        rw [wX12_chooses_218_s]
        refine df (nI_ge hi (by omega)) ⟨vin (by omega) (by omega), vin (by omega) (by omega), ?_⟩
        rw [nI_clamp (by omega), w1 23 i (by omega), u2 i hi]
        rintro s6 rfl v rfl
        rw [nI_1]
        refine kk _ ⟨fun c k g => by rw [gI_o (by omega)]; exact w1 c k g, fun k hk => ?_⟩
        by_cases e : k = i
        · subst e; rw [gI_s]
        · rw [gI_o (by omega)]; exact w2 k (by omega)
    · rintro m w υ hw hυ kk
      rw [wX12_chooses_46_s]
      refine df (nI_ge hw (by omega)) ?_
      rintro v rfl
      have eb : bst W (fo W 0 w none) w = fo W 0 (w + 1) none := by rw [fo_s, Nat.zero_add]
      have key := sR_way hv hd hR' (w := w) (by omega) (o := fo W 0 w none) (k46 := wX12_chooses_46 post (nI (fbn W)) (nI (W 0 5 ^ fbn W)) m) (post := post) (x2 := nI (W 0 5 ^ fbn W)) (fun υ' hυ' => kk υ' (by rw [eb] at hυ'; exact hυ')) (fbn W) υ (Nat.le_refl _) hυ (fun k h1 h2 => absurd h1 (by omega))
      rw [Nat.sub_self, Nat.sub_self, Nat.pow_zero, Nat.div_one] at key
      exact key
  · rintro n i v τ hi ⟨t1, rfl, t2⟩ kk
    rw [wX12_chooses_9_s]
    refine df (nI_ge hi (by omega)) ⟨vin (by omega) (by omega), vin (by omega) (by omega), ?_⟩
    rw [nI_clamp (by omega), t1 17 i (by omega), (hD.2.2.1 i (by omega)).2]
    rintro s45 rfl
    rw [gI_o (by omega), t1 0 20 (by omega), hD.1, nI_mul, ← Nat.pow_succ]
    rintro v46 rfl v47 rfl
    rw [nI_1]
    refine kk _ _ ⟨fun c k g => by rw [gI_o (by omega)]; exact t1 c k g, rfl, fun k hk => ?_⟩
    by_cases e : k = i
    · subst e; rw [gI_s]
    · rw [gI_o (by omega)]; exact t2 k (by omega)
-- choose
theorem oW_i {W : Vw} (hv : Iv W) {o : Option Nat} (c : o.isSome = true) : ∃ u, o = some u := by
  cases o with
  | none => exact absurd c (by decide)
  | some u => exact ⟨u, rfl⟩
theorem pc_choose {ids : List Nat} {σ ρ : St} (a1 : Int32) (h : Rel ids σ ρ) : wX11_choose ids a1 σ (fun r σ1 => wX12_choose a1 ρ (fun r2 ρ1 => r = r2 ∧ Rel ids σ1 ρ1)) := by
  obtain ⟨-, W, h⟩ := h
  have hv := h.iv
  have hc := hv.c
  have hd := h.dv
  obtain ⟨n1, n2, n3⟩ := fbn_r W
  have n9 : (9 : Int32) + nI (fbn W) = nI (9 + fbn W) := nI_add 9 (fbn W)
  have t9 : (nI (9 + fbn W)).toInt = (9 : Int) + fbn W := by rw [fb_nI (by omega)]; omega
  have t10 : (10 : Int32).toInt = 10 := by decide
  refine sX_free hv h.mx.bs ?_
  refine sX_within (10 : Int) ((9 : Int) + fbn W) t10 (by rw [n9]; exact t9) ?_
  -- the reference's road
  have rgo : ∀ P : Int32 → St → Prop, (wi a1.toInt 0 1 = false → wi a1.toInt 10 ((9 : Int) + fbn W) = false → P (-2) ρ) → ((wi a1.toInt 0 1 = true ∨ wi a1.toInt 10 ((9 : Int) + fbn W) = true) → wX12_choose_32 P a1 ρ) → wX12_choose a1 ρ P := by
    intro P p1 p2
    refine sR_inI 0 1 rfl rfl (bI_e (fun b => ?_) (fun b => p2 (Or.inl b)))
    refine sR_chosen hv h.mr.bs ?_
    refine sR_inI (10 : Int) ((9 : Int) + fbn W) rfl (by rw [n9, Int32.toInt_toInt64]; exact t9) (bI_e (fun b2 => p1 b b2) (fun b2 => p2 (Or.inr b2)))
  have both : (wi a1.toInt 0 1 = true ∨ wi a1.toInt 10 ((9 : Int) + fbn W) = true) → wX11_choose_30 ids (fun r σ1 => wX12_choose a1 ρ (fun r2 ρ1 => r = r2 ∧ Rel ids σ1 ρ1)) a1 (bI (wi a1.toInt 10 ((9 : Int) + fbn W))) σ := by
    intro c
    refine sX_findChosen hv hd h.mx h.dx (fun τ e1 hb => ?_)
    have r32 : ∀ P : Int32 → St → Prop, (∀ υ, EqR ρ υ → bR W (oW W) υ → ((¬ bI (oW W).isSome = 0 → ((¬ a1 = 0 → ((¬ a1 = (1 : Int32) → (vp_in (a1 - (10 : Int32)) 4) ∧ P (gI υ 24 (a1 - (10 : Int32)).toNatClampNeg) υ) ∧ (a1 = (1 : Int32) → P (gI υ 0 54) υ))) ∧ (a1 = 0 → P (gI υ 0 53) υ))) ∧ (bI (oW W).isSome = 0 → P (-1) υ))) → wX12_choose a1 ρ P := fun P hP => rgo P (fun z1 z2 => by
      rcases c with c | c
      · rw [c] at z1; exact absurd z1 (by decide)
      · rw [c] at z2; exact absurd z2 (by decide)) (fun _ => sR_chooses hv hd h.2.2.1 hP)
    refine bI_e (fun b => ?_) (fun b => ?_)
    · refine r32 _ (fun υ e2 hb2 => ?_)
      rw [b]
      exact dn rfl ⟨rfl, (h.eq e1 e2).rel⟩
    · obtain ⟨u, ho⟩ := oW_i hv b
      rw [ho] at hb
      refine bI_d (fun b2 => ?_) (fun b2 => ?_)
      · have a01 : a1 = 0 ∨ a1 = 1 := by
          rcases c with c | c
          · obtain ⟨j, hj, e⟩ := wi_k (N := 1) c
            have : j = 0 ∨ j = 1 := by omega
            rcases this with rfl | rfl
            · exact Or.inl e
            · exact Or.inr e
          · rw [b2] at c; exact absurd c (by decide)
        rcases a01 with rfl | rfl
        · refine dn rfl (r32 _ (fun υ e2 hb2 => ?_))
          rw [b]
          rw [ho] at hb2
          refine dm (by decide) (dn rfl ⟨?_, (h.eq e1 e2).rel⟩)
          rw [hb.1, hb2.1]
        · refine dm (by decide) (r32 _ (fun υ e2 hb2 => ?_))
          rw [b]
          rw [ho] at hb2
          refine dm (by decide) (dm (by decide) (dn rfl ⟨?_, (h.eq e1 e2).rel⟩))
          rw [hb.2.1, hb2.2.1]
      · have w := of_decide_eq_true b2
        obtain ⟨x, hx, ex⟩ := fb_of (x := a1) (N := 100) (by omega) (by omega)
        have ei := fb_nI (n := x) (by omega)
        rw [ex, ei] at w
        have esub : a1 - 10 = nI (x - 10) := by
          have : (10 : Int32) = nI 10 := rfl
          rw [ex, this, nI_sub (by omega)]
        rw [esub, nI_clamp (by omega)]
        refine ⟨vin (by omega) (by omega), r32 _ (fun υ e2 hb2 => ?_)⟩
        rw [b]
        rw [ho] at hb2
        have a0 : ¬ a1 = 0 := by
          rw [ex]
          exact nI_ne0 (by omega) (by omega)
        have a1' : ¬ a1 = 1 := by
          rw [ex]
          intro z
          have := nI_inj (b := 1) (by omega) (by omega) z
          omega
        refine dm (by decide) (dm a0 (dm a1' ?_))
        rw [esub, nI_clamp (by omega)]
        refine ⟨vin (by omega) (by omega), ?_, (h.eq e1 e2).rel⟩
        rw [hb.2.2 _ (by omega), hb2.2.2 _ (by omega)]
  have w01 : ∀ j : Nat, j ≤ 1 → a1 = nI j → wi a1.toInt 0 1 = true := fun j hj e => by rw [e]; exact wi_t (by omega) (by omega) (by omega)
  refine ⟨fun z => both (Or.inl (w01 0 (by omega) z)), fun z0 => ⟨fun z => both (Or.inl (w01 1 (by omega) z)), fun z1 => bI_e (fun b => ?_) (fun b => both (Or.inr b))⟩⟩
  refine rgo _ (fun _ _ => ⟨rfl, h.rel⟩) (fun c => ?_)
  rcases c with c | c
  · obtain ⟨j, hj, e⟩ := wi_k (N := 1) c
    have : j = 0 ∨ j = 1 := by omega
    rcases this with rfl | rfl
    · exact absurd e z0
    · exact absurd e z1
  · rw [b] at c; exact absurd c (by decide)
-- lay
def wly (W : Vw) (f : Nat → Nat) : Nat → Vw := fun i => Nat.rec W (fun i ih => wp ih 1 i (f i)) i
theorem wly_s (W : Vw) (f : Nat → Nat) (i : Nat) : wly W f (i + 1) = wp (wly W f i) 1 i (f i) := rfl
theorem wly_o (W : Vw) (f : Nat → Nat) : ∀ i x y, ¬ (x = 19 ∧ y < i) → ¬ (x = 16 ∧ y < i) → wly W f i x y = W x y := by
  intro i
  induction i with
  | zero => intro x y _ _; rfl
  | succ i ih =>
    intro x y h1 h2
    rw [wly_s, wp_o (by omega) (by omega)]
    exact ih x y (by omega) (by omega)
theorem pc_lay {ids : List Nat} {σ ρ : St} (h : Rel ids σ ρ) : wX11_lay ids σ (fun r σ1 => wX12_lay ρ (fun r2 ρ1 => r = r2 ∧ Rel ids σ1 ρ1)) := by
  obtain ⟨-, W, h⟩ := h
  have hv := h.iv
  have hc := hv.c
  have hd := h.dv
  have hdc := hd.1
  obtain ⟨n1, n2, n3⟩ := fbn_r W
  refine sX_findChosen hv hd h.mx h.dx (fun τ e1 hb => ?_)
  refine bI_e (fun b => ?_) (fun b => ?_)
  · refine sR_chooses hv hd h.2.2.1 (fun υ e2 hb2 => ?_)
    rw [b]
    exact dn rfl ⟨rfl, (h.eq e1 e2).rel⟩
  · obtain ⟨u, ho⟩ := oW_i hv b
    rw [ho] at hb
    have hf : ∀ k, k < fbn W → fw (W 0 5) (fbn W) u k < W 0 5 := fun k hk => fw_lt (D_pos hd (k := k) (by omega)) _ _ _
    have w0 : ∀ i y, wly W (fw (W 0 5) (fbn W) u) i 0 y = W 0 y := fun i y => wly_o W _ i 0 y (by omega) (by omega)
    have w20 : ∀ i y, wly W (fw (W 0 5) (fbn W) u) i 20 y = W 20 y := fun i y => wly_o W _ i 20 y (by omega) (by omega)
    have w10 : ∀ i y, wly W (fw (W 0 5) (fbn W) u) i 10 y = W 10 y := fun i y => wly_o W _ i 10 y (by omega) (by omega)
    have gdu : gd W (fbn W) (fw (W 0 5) (fbn W) u) = true := by
      have key : ∀ l o, (∀ v, o = some v → gd W (fbn W) (fw (W 0 5) (fbn W) v) = true) → ∀ v, fo W 0 l o = some v → gd W (fbn W) (fw (W 0 5) (fbn W) v) = true := by
        intro l
        induction l with
        | zero => intro o ho v hv; exact ho v hv
        | succ l ih =>
          intro o ho v hv
          rw [fo_s] at hv
          have ihl := ih o ho
          unfold bst at hv
          split at hv
          · rename_i g
            split at hv
            · obtain rfl := Option.some.inj hv
              exact g
            · rename_i u' hu'
              split at hv
              · obtain rfl := Option.some.inj hv
                exact g
              · obtain rfl := Option.some.inj hv
                exact ihl _ hu'
          · exact ihl v hv
      exact key _ none (fun v hv => absurd hv (by simp)) u ho
    have Gu := (gd_t (Gd_A hd hf)).mp gdu
    have ne18 : ∀ k, k < fbn W → ¬ fw (W 0 5) (fbn W) u k = W 18 k := fun k hk z => Gu.1 k k (by omega) (by omega) (by rw [wa_19 hk]; exact z.symm)
    have hI : ∀ i, i ≤ fbn W → Iv (wly W (fw (W 0 5) (fbn W) u) i) ∧ Dv (wly W (fw (W 0 5) (fbn W) u) i) := by
      intro i
      induction i with
      | zero => intro _; exact ⟨hv, hd⟩
      | succ i ih =>
        intro hi
        obtain ⟨a1, a2⟩ := ih (by omega)
        have q := hd.2.2.1 _ (hf i (by omega))
        refine ⟨put_iv a1 (Nat.le_refl 1) i (by rw [w20]; exact q), put_dv a2 (Nat.le_refl 1) (by rw [w0]; exact hf i (by omega)) ?_⟩
        show ¬ fw (W 0 5) (fbn W) u i = wly W (fw (W 0 5) (fbn W) u) i 18 i
        rw [wly_o W _ i 18 i (by omega) (by omega)]
        exact ne18 i (by omega)
    refine lpc1 (wX11_lay_11 ids _) (fbn W) (by omega) (fun i τ1 => RX (wly W (fw (W 0 5) (fbn W) u) i) ids τ1 ∧ (∀ c k, c < 72 → gI τ1 c k = gI τ c k)) ?_ ?_ τ ⟨h.2.1.eq hv e1, fun _ _ _ => rfl⟩
    · rintro n τ1 ⟨x1, x2⟩
      rw [wX11_lay_11_s]
      refine sX_free hv (by rw [x2 _ _ (by omega), (h.mx.eq hv e1).bs]) (dt (nI_le (Nat.le_refl _) (by omega)) ?_)
      rw [x2 _ _ (by omega), hb.2.1]
      refine sR_chooses hv hd h.2.2.1 (fun υ e2 hb2 => ?_)
      rw [b]
      rw [ho] at hb2
      refine dm (by decide) ?_
      refine lpc1 (wX12_lay_11 _) (fbn W) (by omega) (fun i υ1 => RR (wly W (fw (W 0 5) (fbn W) u) i) υ1 ∧ (∀ c k, ¬ c = 17 → gI υ1 c k = gI υ c k)) ?_ ?_ υ ⟨h.2.2.1.eq e2, fun _ _ _ => rfl⟩
      · rintro m υ1 ⟨y1, y2⟩
        rw [wX12_lay_11_s]
        refine sR_chosen hv (by rw [y2 _ _ (by omega), (h.mr.eq e2).bs]) (dt (nI_le (Nat.le_refl _) (by omega)) ⟨?_, RW.rel (W := wly W (fw (W 0 5) (fbn W) u) (fbn W)) ?_⟩)
        · rw [y2 _ _ (by omega), hb2.2.1]
        · obtain ⟨a1, a2⟩ := hI (fbn W) (Nat.le_refl _)
          refine (h.eq e1 e2).up a1 a2 x1 y1 (w0 _ _) (fun c k g1 g2 => x2 c k (by omega)) (fun c k g => y2 c k (by omega))
      · rintro m i υ1 hi ⟨y1, y2⟩ kk
        rw [wX12_lay_11_s]
        refine sR_chosen hv (by rw [y2 _ _ (by omega), (h.mr.eq e2).bs]) (df (nI_ge hi (by omega)) ⟨vin (by omega) (by omega), vin (by omega) (by omega), ?_⟩)
        rw [nI_clamp (by omega), y2 _ _ (by omega), hb2.2.2 i hi]
        rintro s6 rfl v rfl
        rw [nI_1]
        refine kk _ ⟨?_, fun c k g => by rw [gI_o (by omega)]; exact y2 c k g⟩
        rw [wly_s]
        exact put_rr (e := 1) (hI i (by omega)).1 y1 (Nat.le_refl 1) (by rw [w0]; omega) (by rw [w0]; exact hf i hi) (by rw [w0]; omega)
    · rintro m i τ1 hi ⟨x1, x2⟩ kk
      rw [wX11_lay_11_s]
      have hib : i < W 0 4 := by omega
      have eb : bO (wly W (fw (W 0 5) (fbn W) u) i) i = bO W i := bO_cg (w10 i i)
      have hmi := x1.2.1
      have hib2 : i < wly W (fw (W 0 5) (fbn W) u) i 0 4 := by rw [w0]; exact hib
      refine sX_free hv (by rw [x2 _ _ (by omega), (h.mx.eq hv e1).bs]) (df (nI_ge hi (by omega)) ⟨vin (by omega) (by omega), bO W i, by rw [nI_clamp (by omega), ← eb]; exact (hmi.b hib2).1, by rw [← eb]; exact hmi.okB (hI i (by omega)).1 hib2, vin (by omega) (by omega), ?_⟩)
      rw [nI_clamp (by omega), x2 18 _ (by omega), hb.2.2 i hi]
      have one : (1 : Int32) = nI 1 := rfl
      rw [one, ← eb]
      refine sX_putDrum (e := 1) (hI i (by omega)).1 x1.2.2.1 (by rw [w0]; omega) (Nat.le_refl 1) hib2 (by rw [w0]; exact hf i hi) ?_
      rintro v rfl
      rw [← one, nI_1]
      refine kk _ ⟨?_, fun c k g => ?_⟩
      · rw [wly_s]
        exact put_rx (hI i (by omega)).1 x1 (Nat.le_refl 1) hib2
      · have := bO_r hv hib
        rw [eb, gI_o (by omega), gI_o (by omega)]
        exact x2 c k g
