/-! PURE: the class's mill -/
def cu (W : Vw) (s : Nat) : Nat := if (T W s).1 / (T W s).2.1 < 1000000 then (T W s).1 / (T W s).2.1 else 1000000
theorem cu_le (W : Vw) (s : Nat) : cu W s ≤ 1000000 := by unfold cu; split <;> omega
/-- the class's store after spin -/
def SX (W : Vw) (ids : List Nat) (σ : St) : Prop := MX W ids σ ∧ ∀ s, s < W 0 0 → gJ σ 6 s = lN (T W s).1 ∧ gJ σ 7 s = lN (T W s).2.1 ∧ gI σ 8 s = iI (T W s).2.2
def EqS (σ τ : St) : Prop := EqX σ τ ∧ (∀ c k, gJ τ c k = gJ σ c k) ∧ ∀ k, gI τ 8 k = gI σ 8 k
theorem EqS.rf (σ : St) : EqS σ σ := ⟨EqX.rf σ, fun _ _ => rfl, fun _ => rfl⟩
theorem EqS.tr {σ τ υ : St} (h : EqS σ τ) (g : EqS τ υ) : EqS σ υ := ⟨h.1.tr g.1, fun c k => (g.2.1 c k).trans (h.2.1 c k), fun k => (g.2.2 k).trans (h.2.2 k)⟩
theorem EqS.uI {σ τ : St} (h : EqS σ τ) {c k : Nat} {v : Int32} (hs : scX c k) (h8 : ¬ c = 8) : EqS σ (uI τ c k v) := by
  refine ⟨h.1.uI hs, h.2.1, fun j => ?_⟩
  rw [gI_uI, if_neg (by omega), h.2.2]
theorem SX.eq {W : Vw} {ids : List Nat} {σ τ : St} (hv : Iv W) (h : SX W ids σ) (e : EqS σ τ) : SX W ids τ := by
  refine ⟨h.1.eq hv e.1, fun s hs => ?_⟩
  rw [e.2.1, e.2.1, e.2.2]
  exact h.2 s hs
theorem c1_b : 999 * 101 ^ 7 < 2 ^ 63 := by decide
theorem c2_b : 99 ^ 7 < 2 ^ 63 := by decide
theorem T_b1 {W : Vw} (hv : Iv W) (s : Nat) : (T W s).1 < 2 ^ 63 := Nat.lt_of_le_of_lt (T_bd hv s).1 c1_b
theorem T_b2 {W : Vw} (hv : Iv W) (s : Nat) : (T W s).2.1 < 2 ^ 63 := Nat.lt_of_le_of_lt (T_bd hv s).2.2.1 c2_b
theorem T_p {W : Vw} (hv : Iv W) (s : Nat) : 0 < (T W s).2.1 := (T_bd hv s).2.1
/-- the machines that are on, on some shafts -/
def mOn (W : Vw) (S : Int32) (m : Nat) : Bool := decide (W 8 m = 1) && bt S (W 3 m)
theorem one_or {n : Nat} (h : n ≤ 1) : nI n = 0 ↔ ¬ n = 1 := by
  have : n = 0 ∨ n = 1 := by omega
  rcases this with rfl | rfl <;> decide
theorem sX_machinesOn {W : Vw} {ids : List Nat} {σ : St} (hv : Iv W) (hM : MX W ids σ) (S : Int32) {post : Int32 → St → Prop} (h : post (bs (W 0 3) (mOn W S)) σ) : wX6_machinesOn ids S σ post := by
  have hc := hv.c
  refine lpc2 (wX6_machinesOn_4 ids post S) (W 0 3) (by omega) (fun i v τ => τ = σ ∧ v = bs i (mOn W S)) ?_ ?_ 0 σ ⟨rfl, rfl⟩
  · rintro n v τ ⟨rfl, rfl⟩
    rw [wX6_machinesOn_4_s]
    exact dt (by rw [hM.ms]; exact nI_le (Nat.le_refl _) (by omega)) h
  · rintro n i v τ hi ⟨rfl, rfl⟩ k
    rw [wX6_machinesOn_4_s]
    obtain ⟨m1, -, m3, m4, m5, m6, m7, m8⟩ := hM.m hi
    have hm := hv.m hi
    have go : ∀ v', v' = bs (i + 1) (mOn W S) → wX6_machinesOn_47 ids (wX6_machinesOn_4 ids post S n) post S v' (nI i) τ := by
      rintro _ rfl v1 rfl
      rw [nI_1]
      exact k _ _ ⟨rfl, rfl⟩
    refine df (by rw [hM.ms]; exact nI_ge hi (by omega)) ⟨vin (by omega) (by omega), 60 + i, by rw [nI_clamp (by omega)]; exact m1, hM.okM hv hi, ?_⟩
    by_cases on : W 8 i = 1
    · refine df (by rw [m8, one_or hm.2.2.2.2.2]; simp [on]) ⟨60 + i, by rw [nI_clamp (by omega)]; exact m1, hM.okM hv hi, ?_⟩
      rw [m3, bt_t S (i := W 3 i) (by omega)]
      by_cases b : bt S (W 3 i) = true
      · refine dn b (fun v e => go _ ?_)
        rw [e]
        exact bs_t (by unfold mOn; simp [on, b])
      · exact dm b (go _ (bs_f (by unfold mOn; simp [b])))
    · exact dt (by rw [m8, one_or hm.2.2.2.2.2]; exact on) (go _ (bs_f (by unfold mOn; simp [on])))
theorem m1_bt (s : Nat) (h : s < 8) : bt (255 : Int32) s = true := by
  have : ∀ s : Fin 8, bt (255 : Int32) s.val = true := by decide
  exact this ⟨s, h⟩
theorem sX_cutTurns {W : Vw} {ids : List Nat} {σ : St} (hv : Iv W) (hS : SX W ids σ) {s : Nat} (hs : s < W 0 0) {post : Int32 → St → Prop} (h : post (nI (cu W s)) σ) : wX6_cutTurns ids (nI s) σ post := by
  have hc := hv.c
  have b1 := T_b1 hv s
  have b2 := T_b2 hv s
  have b3 := T_p hv s
  obtain ⟨e1, e2, -⟩ := hS.2 s hs
  have bq : (T W s).1 / (T W s).2.1 < 2 ^ 63 := Nat.lt_of_le_of_lt (Nat.div_le_self _ _) b1
  refine ⟨vin (by omega) (by omega), ?_, ?_⟩
  · rw [nI_clamp (by omega), e2]
    exact lN_n0 b2 b3
  · rw [nI_clamp (by omega), e1, e2, lN_div b1 b2]
    have e3 : (1000000 : Int64) = lN 1000000 := rfl
    have e4 : (if lN ((T W s).1 / (T W s).2.1) < 1000000 then lN ((T W s).1 / (T W s).2.1) else 1000000) = lN (cu W s) := by
      rw [e3]
      unfold cu
      by_cases q : (T W s).1 / (T W s).2.1 < 1000000
      · rw [if_pos q, if_pos ((lN_ltI bq (by decide)).mpr q)]
      · rw [if_neg q, if_neg (fun z => q ((lN_ltI bq (by decide)).mp z))]
    rw [e4, lN_i]
    exact h
