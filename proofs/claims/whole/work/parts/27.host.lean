/-! PURE: feed, taken, the host's sheets -/
theorem and255 (x : Int32) : ∃ b : Nat, b < 256 ∧ x &&& (255 : Int32) = nI b := by
  refine ⟨(x &&& (255 : Int32)).toBitVec.toNat, ?_, ?_⟩
  · rw [Int32.toBitVec_and, BitVec.toNat_and]
    have e : (255 : Int32).toBitVec.toNat = 255 := by decide
    rw [e]
    have := Nat.and_le_right (n := x.toBitVec.toNat) (m := 255)
    omega
  · apply Int32.toBitVec_inj.mp
    show _ = (Int32.ofNat _).toBitVec
    rw [Int32.toBitVec_ofNat']
    rw [BitVec.ofNat_toNat, BitVec.setWidth_eq]
theorem l255 (y : Int64) : (y &&& (255 : Int64)).toInt32 = y.toInt32 &&& (255 : Int32) := by
  rw [Int64.toInt32_and]
  rfl
theorem take_up {W : Vw} {ids : List Nat} {σ ρ : St} (h : RW W ids σ ρ) (hn : W 0 14 < 160) {b : Nat} (hb : b < 256) : RW (wu (wu W 26 (W 0 14) b) 0 14 (W 0 14 + 1)) ids (uI (uI σ 13 (W 0 14) (nI b)) 2 1 (nI (W 0 14) + 1)) (uI (uI ρ 3 (W 0 14) (nI b)) 0 6 (nI (W 0 14) + 1)) := by
  have hv := h.iv
  rw [nI_1]
  have w : ∀ x y, ¬ (x = 0 ∧ y = 14) → ¬ x = 26 → wu (wu W 26 (W 0 14) b) 0 14 (W 0 14 + 1) x y = W x y := fun x y g1 g2 => by rw [wu_o g1, wu_f g2]
  have w14 : wu (wu W 26 (W 0 14) b) 0 14 (W 0 14 + 1) 0 14 = W 0 14 + 1 := rfl
  have w26 : ∀ y, wu (wu W 26 (W 0 14) b) 0 14 (W 0 14 + 1) 26 y = if y = W 0 14 then b else W 26 y := fun y => by
    rw [wu_o (by omega)]
    unfold wu
    by_cases z : y = W 0 14
    · rw [if_pos ⟨rfl, z⟩, if_pos z]
    · rw [if_neg (fun q => z q.2), if_neg z]
  have nX : ∀ c j, ¬ c = 13 → ¬ (c = 2 ∧ j = 1) → gI (uI (uI σ 13 (W 0 14) (nI b)) 2 1 (nI (W 0 14 + 1))) c j = gI σ c j := fun c j g1 g2 => by rw [gI_o g2, gI_o (fun z => g1 z.1)]
  have nR : ∀ c j, ¬ c = 3 → ¬ (c = 0 ∧ j = 6) → gI (uI (uI ρ 3 (W 0 14) (nI b)) 0 6 (nI (W 0 14 + 1))) c j = gI ρ c j := fun c j g1 g2 => by rw [gI_o g2, gI_o (fun z => g1 z.1)]
  obtain ⟨d1, d2, d3, d4, d5, d6, d7, d8⟩ := h.dv
  obtain ⟨t1, t2, t3, t4⟩ := h.ts
  obtain ⟨q1, q2, q3, q4⟩ := h.tq
  refine h.up (hv.fr ?_) ⟨?_, d2, d3, d4, d5, d6, d7, ?_⟩ (h.2.1.fr (h.mx.fr hv ?_ ?_ (fun _ _ => rfl)) (h.dx.fr hv ?_ ?_) (h.ix.fr hv ?_ ?_) ⟨?_, ?_, ?_, ?_⟩ rfl rfl (fun _ => rfl) (fun _ _ => rfl)) ⟨h.mr.fr ?_ ?_, h.dr.fr ?_ ?_, h.ir.fr ?_ ?_, ?_, ?_, ?_, ?_⟩ rfl ?_ ?_
  · intro x y hc; unfold cM at hc; exact w _ _ (by omega) (by omega)
  · exact ⟨d1.1, d1.2.1, d1.2.2.1, d1.2.2.2.1, d1.2.2.2.2.1, d1.2.2.2.2.2.1, d1.2.2.2.2.2.2.1, hn⟩
  · intro i hi
    rw [w14] at hi
    rw [w26]
    split
    · exact hb
    · exact d8 i (by omega)
  · intro x y hc; unfold cM at hc; exact w _ _ (by omega) (by omega)
  · intro c k hk; unfold kM at hk; exact nX _ _ (by omega) (by omega)
  · intro x y hc; unfold cD at hc; exact w _ _ (by omega) (by omega)
  · intro c k hk; unfold kD at hk; exact nX _ _ (by omega) (by omega)
  · intro x y hc; unfold cI at hc; exact w _ _ (by omega) (by omega)
  · intro c k hk; unfold kI at hk; exact nX _ _ (by omega) (by omega)
  · rw [nX _ _ (by omega) (by omega)]; exact t1
  · rw [nX _ _ (by omega) (by omega)]; exact t2
  · rw [gI_s, w14]
  · intro i hi
    rw [w14] at hi
    rw [w26, gI_o (by omega)]
    by_cases z : i = W 0 14
    · rw [if_pos z, z, gI_s]
    · rw [if_neg z, gI_o (by omega)]
      exact t4 i (by omega)
  · intro x y hc; unfold cM at hc; exact w _ _ (by omega) (by omega)
  · intro c k hk; unfold qM at hk; exact nR _ _ (by omega) (by omega)
  · intro x y hc; unfold cD at hc; exact w _ _ (by omega) (by omega)
  · intro c k hk; unfold qD at hk; exact nR _ _ (by omega) (by omega)
  · intro x y hc; unfold cI at hc; exact w _ _ (by omega) (by omega)
  · intro c k hk; unfold qI at hk; exact nR _ _ (by omega) (by omega)
  · rw [nR _ _ (by omega) (by omega)]; exact q1
  · rw [nR _ _ (by omega) (by omega)]; exact q2
  · rw [gI_s, w14]
  · intro i hi
    rw [w14] at hi
    rw [w26, gI_o (by omega)]
    by_cases z : i = W 0 14
    · rw [if_pos z, z, gI_s]
    · rw [if_neg z, gI_o (by omega)]
      exact q4 i (by omega)
  · intro c k h1 h2; exact nX _ _ (by omega) (by omega)
  · intro c k hk; exact nR _ _ (by omega) (by omega)
theorem pc_feed {ids : List Nat} {σ ρ : St} (a1 : Int32) (a2 : Int64) (h : Rel ids σ ρ) : wX11_feed ids a1 a2 σ (fun r σ1 => wX12_feed a1 a2 ρ (fun r2 ρ1 => r = r2 ∧ Rel ids σ1 ρ1)) := by
  obtain ⟨-, W, h⟩ := h
  have hd := h.dv.1
  refine sX_within 1 8 rfl rfl (bI_e (fun b => ?_) (fun b => ?_))
  · refine sR_inI 1 8 rfl rfl ?_
    rw [b]
    exact dn rfl ⟨rfl, h.rel⟩
  · obtain ⟨n, hn1, hn, rfl⟩ := wi_1 (N := 8) (by decide) b
    have e160 : (160 : Int32) = nI 160 := rfl
    rw [h.ts.2.2.1, nI_add, e160, nI_leI (by omega) (by omega)]
    have rgo : ∀ P : Int32 → St → Prop, (¬ W 0 14 + n ≤ 160 → P (-4) ρ) → (W 0 14 + n ≤ 160 → ∃ N, wX12_feed_33 P (nI n) a2 N 0 ρ) → wX12_feed (nI n) a2 ρ P := by
      intro P p1 p2
      refine sR_inI 1 8 rfl rfl ?_
      rw [b, h.tq.2.2.1, nI_add, e160, nI_leI (by omega) (by omega)]
      exact dm (by decide) ⟨p2, p1⟩
    refine ⟨fun c => ?_, fun c => rgo _ (fun _ => ⟨rfl, h.rel⟩) (fun z => absurd z c)⟩
    refine lpc1 (wX11_feed_34 ids _ (nI n) a2) n (by omega) (fun i τ => ∃ W' ρ', RW W' ids τ ρ' ∧ W' 0 14 = W 0 14 + i ∧ ∀ P, (∃ N, wX12_feed_33 P (nI n) a2 N (nI i) ρ') → ∃ N, wX12_feed_33 P (nI n) a2 N 0 ρ) ?_ ?_ σ ⟨W, ρ, h, rfl, fun P hP => hP⟩
    · rintro m τ ⟨W', ρ', h', e14, hr⟩
      rw [wX11_feed_34_s]
      refine dt (nI_le (Nat.le_refl _) (by omega)) (rgo _ (fun z => absurd c z) (fun _ => hr _ ⟨1, ?_⟩))
      rw [wX12_feed_33_s]
      refine dt (nI_le (Nat.le_refl _) (by omega)) ⟨?_, h'.rel⟩
      rw [h'.ts.2.2.1, h'.tq.2.2.1]
    · rintro m i τ hi ⟨W', ρ', h', e14, hr⟩ kk
      rw [wX11_feed_34_s]
      obtain ⟨x, hx, ex⟩ := and255 ((a2 >>> (((8 : Int32) * nI i).toInt64 &&& 63)).toInt32)
      refine df (nI_ge hi (by omega)) ?_
      unfold wX7_take
      rw [h'.ts.2.2.1, e160, nI_leI (by omega) (by omega), ex, nI_clamp (by omega)]
      refine df (by omega) ⟨vin (by omega) (by omega), ?_⟩
      rintro σ3 rfl
      rw [gI_o (by omega), h'.ts.2.2.1]
      rintro σ4 rfl v3 rfl
      rw [nI_1]
      refine kk _ ⟨_, _, take_up h' (by omega) hx, ?_, fun P hP => hr P ?_⟩
      · show W' 0 14 + 1 = _
        omega
      · obtain ⟨N, hN⟩ := hP
        refine ⟨N + 1, ?_⟩
        rw [wX12_feed_33_s]
        refine df (nI_ge hi (by omega)) ⟨by rw [h'.tq.2.2.1]; exact vin (by omega) (by omega), ?_⟩
        rw [h'.tq.2.2.1, nI_clamp (by omega), l255, ex]
        rintro s3 rfl
        rw [gI_o (by omega), h'.tq.2.2.1]
        rintro s4 rfl v5 rfl
        rw [nI_1 i]
        exact hN
-- taken
def ofk (kd k : Nat) : Bool := decide (k = 0) || decide (k = kd) || (decide (k = 1) && decide (kd = 5)) || (decide (k = 2) && decide (kd = 4))
theorem tk_stop {post : Int32 → St → Prop} {x1 x2 x : Int32} {ρ : St} (c : x = -1 ∨ x = x2) (h : wX12_taken_51 post x1 x2 x ρ) : ∃ n, wX12_taken_33 post x1 x2 n x ρ := by
  refine ⟨1, ?_⟩
  rw [wX12_taken_33_s]
  by_cases z : x = -1
  · exact dt z h
  · rcases c with c | c
    · exact absurd c z
    · exact df z (dt c h)
theorem tk_up {post : Int32 → St → Prop} {x1 x2 : Int32} {x : Nat} {y : Int32} {ρ : St} (hx : x ≤ 5) (c : ¬ nI x = x2) (hy : y = if x = 0 then -1 else if x = 4 then 2 else if x = 5 then 1 else 0) (h : ∃ n, wX12_taken_33 post x1 x2 n y ρ) : ∃ n, wX12_taken_33 post x1 x2 n (nI x) ρ := by
  obtain ⟨n, h⟩ := h
  refine ⟨n + 1, ?_⟩
  rw [wX12_taken_33_s]
  refine df (ne_m1 (by omega)) (df c ?_)
  have : x = 0 ∨ x = 1 ∨ x = 2 ∨ x = 3 ∨ x = 4 ∨ x = 5 := by omega
  rcases this with rfl | rfl | rfl | rfl | rfl | rfl
  · subst hy; exact dn rfl h
  · subst hy; exact dm (by decide) (dm (by decide) (dm (by decide) h))
  · subst hy; exact dm (by decide) (dm (by decide) (dm (by decide) h))
  · subst hy; exact dm (by decide) (dm (by decide) (dm (by decide) h))
  · subst hy; exact dm (by decide) (dn rfl h)
  · subst hy; exact dm (by decide) (dm (by decide) (dn rfl h))
theorem sR_taken33 {post : Int32 → St → Prop} {x1 : Int32} {ρ : St} {kd k : Nat} (hkd : kd ≤ 5) (hk : k ≤ 5) (h1 : ofk kd k = true → wX12_taken_51 post x1 (nI k) (nI k) ρ) (h0 : ofk kd k = false → wX12_taken_51 post x1 (nI k) (-1) ρ) : ∃ n, wX12_taken_33 post x1 (nI k) n (nI kd) ρ := by
  have ne : ∀ x : Nat, x ≤ 5 → ¬ x = k → ¬ nI x = nI k := fun x hx hn z => hn (nI_inj (by omega) (by omega) z)
  have T0 : ofk kd 0 = true → (ofk kd k = false ∨ k = 0) → ∃ n, wX12_taken_33 post x1 (nI k) n (nI 0) ρ := by
    intro e c
    by_cases z : k = 0
    · subst z
      exact tk_stop (Or.inr rfl) (h1 e)
    · rcases c with c | c
      · exact tk_up (x := 0) (y := -1) (by omega) (ne 0 (by omega) (fun q => z q.symm)) rfl (tk_stop (Or.inl rfl) (h0 c))
      · exact absurd c z
  have o0 : ofk kd 0 = true := rfl
  by_cases z : kd = k
  · subst z
    exact tk_stop (Or.inr rfl) (h1 (by unfold ofk; simp))
  · have c4 : kd = 4 ∨ kd = 5 ∨ (¬ kd = 4 ∧ ¬ kd = 5) := by omega
    rcases c4 with c | c | ⟨c, c'⟩
    · subst c
      refine tk_up (x := 4) (y := nI 2) (by omega) (ne 4 (by omega) z) rfl ?_
      by_cases y : k = 2
      · subst y
        exact tk_stop (Or.inr rfl) (h1 rfl)
      · refine tk_up (x := 2) (y := nI 0) (by omega) (ne 2 (by omega) (fun q => y q.symm)) rfl (T0 o0 ?_)
        by_cases w : k = 0
        · exact Or.inr w
        · left
          have : ¬ k = 4 := fun q => z q.symm
          unfold ofk
          simp [*]
    · subst c
      refine tk_up (x := 5) (y := nI 1) (by omega) (ne 5 (by omega) z) rfl ?_
      by_cases y : k = 1
      · subst y
        exact tk_stop (Or.inr rfl) (h1 rfl)
      · refine tk_up (x := 1) (y := nI 0) (by omega) (ne 1 (by omega) (fun q => y q.symm)) rfl (T0 o0 ?_)
        by_cases w : k = 0
        · exact Or.inr w
        · left
          have : ¬ k = 5 := fun q => z q.symm
          unfold ofk
          simp [*]
    · by_cases w : k = 0
      · by_cases w2 : kd = 0
        · exact absurd (w2.trans w.symm) z
        · exact tk_up (x := kd) (y := nI 0) hkd (ne kd hkd z) (by rw [if_neg w2, if_neg c, if_neg c']; rfl) (T0 o0 (Or.inr w))
      · have e : ofk kd k = false := by
          have : ¬ k = kd := fun q => z q.symm
          unfold ofk
          simp [*]
        by_cases w2 : kd = 0
        · subst w2
          exact T0 o0 (Or.inl e)
        · exact tk_up (x := kd) (y := nI 0) hkd (ne kd hkd z) (by rw [if_neg w2, if_neg c, if_neg c']; rfl) (T0 o0 (Or.inl e))
theorem pc_taken {ids : List Nat} {σ ρ : St} (a1 : Int32) (a2 : Int32) (h : Rel ids σ ρ) : wX11_taken ids a1 a2 σ (fun r σ1 => wX12_taken a1 a2 ρ (fun r2 ρ1 => r = r2 ∧ Rel ids σ1 ρ1)) := by
  obtain ⟨-, W, h⟩ := h
  have hv := h.iv
  have hc := hv.c
  refine sX_isKind a2 (bI_e (fun b => ?_) (fun b => ?_))
  · refine sR_inI 0 5 rfl rfl ?_
    rw [b]
    exact dn rfl ⟨rfl, h.rel⟩
  · obtain ⟨k, hk, rfl⟩ := wi_k (N := 5) b
    refine sX_isBelt hv h.mx a1 (bI_e (fun b2 => ?_) (fun b2 => ?_))
    · refine sR_inI 0 5 rfl rfl ?_
      rw [b]
      refine dm (by decide) (sR_isBelt hv h.mr a1 ?_)
      rw [b2]
      exact dn rfl ⟨rfl, h.rel⟩
    · obtain ⟨t, ht, rfl⟩ := wi_n (by omega) b2
      have hb := hv.b ht
      have hr := bO_r hv ht
      obtain ⟨br, -, -, -, -, b3, -⟩ := h.mx.b ht
      refine ⟨vin (by omega) (by omega), bO W t, by rw [nI_clamp (by omega)]; exact br, h.mx.okB hv ht, ?_⟩
      have rgo : ∀ P : Int32 → St → Prop, (ofk (W 10 t) k = true → P (nI (W 13 t)) ρ) → (ofk (W 10 t) k = false → P (-13) ρ) → wX12_taken (nI t) (nI k) ρ P := by
        intro P p1 p0
        refine sR_inI 0 5 rfl rfl ?_
        rw [b]
        refine dm (by decide) (sR_isBelt hv h.mr _ ?_)
        rw [b2]
        refine dm (by decide) ⟨vin (by omega) (by omega), ?_⟩
        rw [nI_clamp (by omega), (h.mr.b ht).1]
        rintro v rfl
        refine sR_taken33 hb.1 hk (fun e => ?_) (fun e => ?_)
        · refine dn rfl ⟨vin (by omega) (by omega), ?_⟩
          rw [nI_clamp (by omega), (h.mr.b ht).2.2.2.1]
          exact p1 e
        · exact dm (fun z => ne_m1 (n := k) (by omega) z.symm) (p0 e)
      have fin : ∀ x : Int32, x = bI (ofk (W 10 t) k) → ((x = 0 → wX11_taken_48 ids (fun r σ1 => wX12_taken (nI t) (nI k) ρ (fun r2 ρ1 => r = r2 ∧ Rel ids σ1 ρ1)) (-13 : Int32) σ) ∧ (¬ x = 0 → wX11_taken_48 ids (fun r σ1 => wX12_taken (nI t) (nI k) ρ (fun r2 ρ1 => r = r2 ∧ Rel ids σ1 ρ1)) (gI σ (bO W t) 3) σ)) := by
        rintro x rfl
        refine bI_d (fun e => rgo _ (fun z => by rw [e] at z; exact absurd z (by decide)) (fun _ => ⟨rfl, h.rel⟩)) (fun e => ?_)
        show wX12_taken (nI t) (nI k) ρ _
        rw [b3]
        exact rgo _ (fun _ => ⟨rfl, h.rel⟩) (fun z => by rw [e] at z; exact absurd z (by decide))
      have dc : W 10 t = 0 ∨ W 10 t = 1 ∨ W 10 t = 2 ∨ W 10 t = 3 ∨ W 10 t = 4 ∨ W 10 t = 5 := by omega
      unfold wX11_isOfKind
      rw [show bO W t % 8 = W 10 t from hr.2.2.1]
      have f1 : (if W 10 t = 1 ∨ W 10 t = 5 then (1 : Int32) else 0) = bI (ofk (W 10 t) 1) := by rcases dc with e | e | e | e | e | e <;> rw [e] <;> rfl
      have f2 : (if W 10 t = 2 ∨ W 10 t = 4 then (1 : Int32) else 0) = bI (ofk (W 10 t) 2) := by rcases dc with e | e | e | e | e | e <;> rw [e] <;> rfl
      have f3 : (if W 10 t = 3 ∨ W 10 t = 3 then (1 : Int32) else 0) = bI (ofk (W 10 t) 3) := by rcases dc with e | e | e | e | e | e <;> rw [e] <;> rfl
      have f4 : (if W 10 t = 4 ∨ W 10 t = 4 then (1 : Int32) else 0) = bI (ofk (W 10 t) 4) := by rcases dc with e | e | e | e | e | e <;> rw [e] <;> rfl
      have f5 : (if W 10 t = 5 ∨ W 10 t = 5 then (1 : Int32) else 0) = bI (ofk (W 10 t) 5) := by rcases dc with e | e | e | e | e | e <;> rw [e] <;> rfl
      rw [f1, f2, f3, f4, f5]
      rintro v rfl
      have ke : ∀ j : Nat, j ≤ 5 → nI k = nI j → k = j := fun j hj z => nI_inj (by omega) (by omega) z
      refine ⟨fun c => ⟨bI_B _, fin _ ?_⟩, fun c => ⟨bI_B _, fin _ ?_⟩, fun c => ⟨bI_B _, fin _ ?_⟩, fun c => ⟨bI_B _, fin _ ?_⟩, fun c => ⟨bI_B _, fin _ ?_⟩, fun c => fin _ ?_⟩
      · rw [ke 1 (by omega) c]
      · rw [ke 2 (by omega) c]
      · rw [ke 3 (by omega) c]
      · rw [ke 4 (by omega) c]
      · rw [ke 5 (by omega) c]
      · have k0 : k = 0 := by
          obtain ⟨c1, c2, c3, c4, c5⟩ := c
          have : k = 0 ∨ k = 1 ∨ k = 2 ∨ k = 3 ∨ k = 4 ∨ k = 5 := by omega
          rcases this with rfl | rfl | rfl | rfl | rfl | rfl
          · rfl
          · exact absurd rfl c1
          · exact absurd rfl c2
          · exact absurd rfl c3
          · exact absurd rfl c4
          · exact absurd rfl c5
        rw [k0]
        rfl
