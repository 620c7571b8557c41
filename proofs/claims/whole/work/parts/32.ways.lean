/-! PURE: ways to put drums: what is best -/
def fbn (W : Vw) : Nat := if W 0 4 < 4 then W 0 4 else 4
theorem fbn_r (W : Vw) : fbn W ≤ 4 ∧ fbn W ≤ W 0 4 ∧ ∀ k, k < W 0 4 → (fbn W ≤ k ↔ 4 ≤ k) := by
  unfold fbn
  split
  · refine ⟨by omega, by omega, fun k hk => by omega⟩
  · refine ⟨by omega, by omega, fun k hk => Iff.rfl⟩
def fw (D n w k : Nat) : Nat := w / D ^ (n - 1 - k) % D
def pv (D : Nat) (f : Nat → Nat) : Nat → Nat := fun j => Nat.rec 0 (fun j ih => ih * D + f j) j
theorem pv_s (D : Nat) (f : Nat → Nat) (j : Nat) : pv D f (j + 1) = pv D f j * D + f j := rfl
theorem pv_lt {D : Nat} {f : Nat → Nat} {j : Nat} (h : ∀ i, i < j → f i < D) : pv D f j < D ^ j := by
  induction j with
  | zero => exact Nat.one_pos
  | succ j ih =>
    have h1 := ih (fun i hi => h i (by omega))
    have h2 := h j (by omega)
    rw [pv_s, Nat.pow_succ]
    have := Nat.mul_le_mul_right D (show pv D f j + 1 ≤ D ^ j by omega)
    rw [Nat.add_mul] at this
    omega
theorem pv_cg {D : Nat} {f g : Nat → Nat} {j : Nat} (h : ∀ i, i < j → f i = g i) : pv D f j = pv D g j := by
  induction j with
  | zero => rfl
  | succ j ih => rw [pv_s, pv_s, ih (fun i hi => h i (by omega)), h j (by omega)]
theorem pv_div {D : Nat} {f : Nat → Nat} {i t : Nat} (hD : 0 < D) (h : ∀ k, k < i + t → f k < D) : pv D f (i + t) / D ^ t = pv D f i := by
  induction t with
  | zero => rw [Nat.pow_zero, Nat.div_one]; rfl
  | succ t ih =>
    have h1 := ih (fun k hk => h k (by omega))
    have h2 := h (i + t) (by omega)
    rw [Nat.pow_succ, Nat.mul_comm, ← Nat.div_div_eq_div_mul]
    show (pv D f (i + t) * D + f (i + t)) / D / D ^ t = _
    rw [Nat.mul_comm, Nat.mul_add_div hD, Nat.div_eq_of_lt h2, Nat.add_zero]
    exact h1
/-- the digits of a way that begins with some drums -/
theorem fw_pv {D n j : Nat} {f : Nat → Nat} {r : Nat} (hj : j ≤ n) (h : ∀ i, i < j → f i < D) (hr : r < D ^ (n - j)) {i : Nat} (hi : i < j) : fw D n (pv D f j * D ^ (n - j) + r) i = f i := by
  have hD : 0 < D := by have := h i hi; omega
  unfold fw
  have e1 : n - 1 - i = (n - j) + (j - 1 - i) := by omega
  have pp : 0 < D ^ (n - j) := Nat.pow_pos hD
  rw [e1, Nat.pow_add, ← Nat.div_div_eq_div_mul, Nat.mul_comm (pv D f j), Nat.mul_add_div pp, Nat.div_eq_of_lt hr, Nat.add_zero]
  have e2 : j = (i + 1) + (j - 1 - i) := by omega
  have e3 : pv D f j / D ^ (j - 1 - i) = pv D f (i + 1) := by
    have := pv_div (D := D) (f := f) (i := i + 1) (t := j - 1 - i) hD (fun k hk => h k (by omega))
    rw [← e2] at this
    exact this
  rw [e3, pv_s, Nat.mul_comm, Nat.mul_add_mod, Nat.mod_eq_of_lt (h i hi)]
theorem fw_lt {D : Nat} (hD : 0 < D) (n w k : Nat) : fw D n w k < D := Nat.mod_lt _ hD
/-- the view with drums f at the first n driven ends -/
def wa (W : Vw) (n : Nat) (f : Nat → Nat) : Vw := fun x y => if y < n ∧ x = 19 then f y else if y < n ∧ x = 16 then W 20 (f y) else W x y
theorem wa_o {W : Vw} {n : Nat} {f : Nat → Nat} {x y : Nat} (h : ¬ (y < n ∧ (x = 19 ∨ x = 16))) : wa W n f x y = W x y := by
  unfold wa
  rw [if_neg (by omega), if_neg (by omega)]
theorem wa_19 {W : Vw} {n : Nat} {f : Nat → Nat} {y : Nat} (h : y < n) : wa W n f 19 y = f y := if_pos ⟨h, rfl⟩
theorem wa_16 {W : Vw} {n : Nat} {f : Nat → Nat} {y : Nat} (h : y < n) : wa W n f 16 y = W 20 (f y) := by
  unfold wa
  rw [if_neg (by omega), if_pos ⟨h, rfl⟩]
theorem wa_cg {W : Vw} {n : Nat} {f g : Nat → Nat} (h : ∀ k, k < n → f k = g k) : wa W n f = wa W n g := by
  funext x y
  unfold wa
  by_cases z : y < n
  · rw [h y z]
  · rw [if_neg (fun q => z q.1), if_neg (fun q => z q.1), if_neg (fun q => z q.1), if_neg (fun q => z q.1)]
def wl (W : Vw) (n : Nat) (f : Nat → Nat) : Nat := ct (W 0 3) (mW (wa W n f))
def cgn (W : Vw) (f : Nat → Nat) (n : Nat) : Nat := ct n (fun k => !decide (f k = W 19 k))
theorem cgn_s (W : Vw) (f : Nat → Nat) (n : Nat) : cgn W f (n + 1) = cgn W f n + (if f n = W 19 n then 0 else 1) := by
  unfold cgn
  rw [ct_s]
  by_cases z : f n = W 19 n
  · simp [z]
  · simp [z]
theorem cgn_cg {W : Vw} {f g : Nat → Nat} {n : Nat} (h : ∀ k, k < n → f k = g k) : cgn W f n = cgn W g n := ct_cg (fun i hi => by simp only [h i hi])
/-- no drum at two ends -/
def gd (W : Vw) (n : Nat) (f : Nat → Nat) : Bool := nn (W 0 4) (fun k => decide (W 18 k = wa W n f 19 k)) && nn (W 0 5) (tw (wa W n f))
def Gd (W : Vw) (n : Nat) (f : Nat → Nat) : Prop := (∀ j k, j < W 0 4 → k < W 0 4 → ¬ W 18 j = wa W n f 19 k) ∧ ∀ j k, j < k → k < W 0 4 → ¬ W 18 j = W 18 k ∧ ¬ wa W n f 19 j = wa W n f 19 k
theorem ct_two {n : Nat} {p : Nat → Bool} : 1 < ct n p ↔ ∃ j k, j < k ∧ k < n ∧ p j = true ∧ p k = true := by
  induction n with
  | zero => exact ⟨fun h => absurd h (by rw [ct_0]; decide), fun ⟨j, k, h1, h2, _⟩ => by omega⟩
  | succ n ih =>
    rw [ct_s]
    constructor
    · intro h
      by_cases z : p n = true
      · rw [if_pos z] at h
        have hp : 0 < ct n p := by omega
        have : ∃ j, j < n ∧ p j = true := by
          apply Classical.byContradiction
          intro hno
          have e : ct n p = ct n (fun _ => false) := ct_cg (fun i hi => by
            cases hpi : p i
            · rfl
            · exact absurd ⟨i, hi, hpi⟩ hno)
          rw [e, ct_none] at hp
          omega
        obtain ⟨j, hj, pj⟩ := this
        exact ⟨j, n, hj, Nat.lt_succ_self n, pj, z⟩
      · rw [if_neg z] at h
        obtain ⟨j, k, h1, h2, h3⟩ := ih.mp h
        exact ⟨j, k, h1, by omega, h3⟩
    · rintro ⟨j, k, h1, h2, h3, h4⟩
      by_cases z : k = n
      · subst z
        rw [if_pos h4]
        have := ct_lt (n := k) (p := fun _ => false) (q := p) (fun _ _ h => absurd h (by decide)) h1 rfl h3
        rw [ct_none] at this
        omega
      · have := ih.mpr ⟨j, k, h1, by omega, h3, h4⟩
        omega
theorem gd_t {W : Vw} {n : Nat} {f : Nat → Nat} (hA : ∀ k, k < W 0 4 → W 18 k < W 0 5 ∧ wa W n f 19 k < W 0 5) : gd W n f = true ↔ Gd W n f := by
  have e4 : wa W n f 0 4 = W 0 4 := wa_o (by omega)
  have e18 : ∀ k, wa W n f 18 k = W 18 k := fun k => wa_o (by omega)
  unfold gd
  rw [Bool.and_eq_true, nn_t, nn_t]
  constructor
  · rintro ⟨h1, h2⟩
    have two : ∀ d, d < W 0 5 → ∀ j k, j < k → k < W 0 4 → ¬ (eD2 (wa W n f) d j = true ∧ eD2 (wa W n f) d k = true) := by
      intro d hd j k hjk hk hh
      have := h2 d hd
      unfold tw at this
      rw [e4] at this
      exact absurd (ct_two.mpr ⟨j, k, hjk, hk, hh.1, hh.2⟩) (of_decide_eq_false this)
    have cross : ∀ j k, j < W 0 4 → k < W 0 4 → ¬ j = k → ¬ W 18 j = wa W n f 19 k := by
      intro j k hj hk ne z
      have t := (hA j hj).1
      have a : eD2 (wa W n f) (W 18 j) j = true := by unfold eD2; rw [e18]; simp
      have b : eD2 (wa W n f) (W 18 j) k = true := by unfold eD2; rw [← z]; simp
      rcases Nat.lt_or_ge j k with g | g
      · exact two _ t j k g hk ⟨a, b⟩
      · exact two _ t k j (by omega) hj ⟨b, a⟩
    refine ⟨fun j k hj hk => ?_, fun j k hjk hk => ⟨fun z => ?_, fun z => ?_⟩⟩
    · by_cases e : j = k
      · subst e
        exact of_decide_eq_false (h1 j hj)
      · exact cross j k hj hk e
    · refine two _ (hA j (by omega)).1 j k hjk hk ⟨?_, ?_⟩
      · unfold eD2; rw [e18]; simp
      · unfold eD2; rw [e18, z]; simp
    · refine two _ (hA j (by omega)).2 j k hjk hk ⟨?_, ?_⟩
      · unfold eD2; simp
      · unfold eD2; rw [z]; simp
  · rintro ⟨h1, h2⟩
    refine ⟨fun k hk => decide_eq_false (h1 k k hk hk), fun d hd => ?_⟩
    unfold tw
    rw [e4]
    refine decide_eq_false (fun z => ?_)
    obtain ⟨j, k, hjk, hk, p1, p2⟩ := ct_two.mp z
    unfold eD2 at p1 p2
    rw [e18] at p1 p2
    simp at p1 p2
    have q1 := h2 j k hjk hk
    have q2 := h1 j k (by omega) hk
    have q3 := h1 k j hk (by omega)
    rcases p1 with p1 | p1 <;> rcases p2 with p2 | p2 <;> omega
/-- the drums that stay are at one end each -/
def stO (W : Vw) : Prop := ∀ j k, j < k → k < W 0 4 → ¬ W 18 j = W 18 k ∧ (4 ≤ k → ¬ W 18 j = W 19 k) ∧ (4 ≤ j → ¬ W 19 j = W 18 k ∧ ¬ W 19 j = W 19 k)
/-- a drum stays -/
def stn (W : Vw) (i d : Nat) : Bool := !nn i (fun k => decide (W 18 k = d) || (decide (4 ≤ k) && decide (W 19 k = d)))
def usd (W : Vw) (f : Nat → Nat) (j d : Nat) : Bool := stn W (W 0 4) d || !nn j (fun i => decide (f i = d))
theorem nn_f {n : Nat} {q : Nat → Bool} : nn n q = false ↔ ∃ i, i < n ∧ q i = true := by
  constructor
  · intro h
    apply Classical.byContradiction
    intro hno
    have : nn n q = true := nn_t.mpr (fun i hi => by
      cases hq : q i
      · rfl
      · exact absurd ⟨i, hi, hq⟩ hno)
    rw [h] at this
    exact absurd this (by decide)
  · rintro ⟨i, hi, hq⟩
    cases h : nn n q
    · rfl
    · have := nn_t.mp h i hi
      rw [hq] at this
      exact absurd this (by decide)
theorem stn_t {W : Vw} {i d : Nat} : stn W i d = true ↔ ∃ k, k < i ∧ (W 18 k = d ∨ (4 ≤ k ∧ W 19 k = d)) := by
  unfold stn
  rw [Bool.not_eq_true', nn_f]
  simp
theorem usd_t {W : Vw} {f : Nat → Nat} {j d : Nat} : usd W f j d = true ↔ (∃ k, k < W 0 4 ∧ (W 18 k = d ∨ (4 ≤ k ∧ W 19 k = d))) ∨ ∃ i, i < j ∧ f i = d := by
  unfold usd
  rw [Bool.or_eq_true, stn_t, Bool.not_eq_true', nn_f]
  simp
theorem Gd_x {W : Vw} (hd : Dv W) {f : Nat → Nat} : Gd W (fbn W) f ↔ stO W ∧ ∀ j, j < fbn W → usd W f j (f j) = false := by
  obtain ⟨n1, n2, n3⟩ := fbn_r W
  have w19 : ∀ k, k < W 0 4 → 4 ≤ k → wa W (fbn W) f 19 k = W 19 k := fun k hk h4 => wa_o (by have := (n3 k hk).mpr h4; omega)
  have wf : ∀ k, k < fbn W → wa W (fbn W) f 19 k = f k := fun k hk => wa_19 hk
  have n4 : ∀ k, k < W 0 4 → ¬ 4 ≤ k → k < fbn W := fun k hk h4 => by
    have := n3 k hk
    omega
  constructor
  · rintro ⟨h1, h2⟩
    refine ⟨fun j k hjk hk => ⟨(h2 j k hjk hk).1, fun h4 => ?_, fun h4 => ⟨?_, ?_⟩⟩, fun j hj => ?_⟩
    · rw [← w19 k hk h4]
      exact h1 j k (by omega) hk
    · rw [← w19 j (by omega) h4]
      exact fun z => h1 k j hk (by omega) z.symm
    · rw [← w19 j (by omega) h4, ← w19 k hk (by omega)]
      exact (h2 j k hjk hk).2
    · cases hu : usd W f j (f j)
      · rfl
      · exfalso
        rcases usd_t.mp hu with ⟨k, hk, z | ⟨h4, z⟩⟩ | ⟨i, hi, z⟩
        · exact h1 k j hk (by omega) (by rw [wf j hj]; exact z)
        · have := n3 k hk
          have q := (h2 j k (by omega) hk).2
          rw [wf j hj, w19 k hk h4] at q
          exact q z.symm
        · have q := (h2 i j hi (by omega)).2
          rw [wf i (by omega), wf j hj] at q
          exact q z
  · rintro ⟨h1, h2⟩
    have h3 : ∀ j, j < fbn W → ¬ ((∃ k, k < W 0 4 ∧ (W 18 k = f j ∨ (4 ≤ k ∧ W 19 k = f j))) ∨ ∃ i, i < j ∧ f i = f j) := fun j hj z => by
      have := usd_t.mpr z
      rw [h2 j hj] at this
      exact absurd this (by decide)
    refine ⟨fun j k hj hk => ?_, fun j k hjk hk => ⟨(h1 j k hjk hk).1, ?_⟩⟩
    · by_cases h4 : 4 ≤ k
      · rw [w19 k hk h4]
        rcases Nat.lt_trichotomy j k with g | g | g
        · exact (h1 j k g hk).2.1 h4
        · subst g
          exact (hd.2.2.2.1 j hj).2.2.1
        · exact fun z => ((h1 k j g hj).2.2 h4).1 z.symm
      · have hn := n4 k hk h4
        rw [wf k hn]
        exact fun z => h3 k hn (Or.inl ⟨j, hj, Or.inl z⟩)
    · by_cases h4 : 4 ≤ k
      · rw [w19 k hk h4]
        by_cases h5 : 4 ≤ j
        · rw [w19 j (by omega) h5]
          exact ((h1 j k hjk hk).2.2 h5).2
        · have hn := n4 j (by omega) h5
          rw [wf j hn]
          exact fun z => h3 j hn (Or.inl ⟨k, hk, Or.inr ⟨h4, z.symm⟩⟩)
      · have hn := n4 k hk h4
        rw [wf k hn, wf j (by omega)]
        exact fun z => h3 k hn (Or.inr ⟨j, hjk, z⟩)
/-- the best way so far, and one more -/
def bst (W : Vw) (o : Option Nat) (w : Nat) : Option Nat := if gd W (fbn W) (fw (W 0 5) (fbn W) w) = true then (match o with
  | none => some w
  | some u => if wl W (fbn W) (fw (W 0 5) (fbn W) u) < wl W (fbn W) (fw (W 0 5) (fbn W) w) ∨ (wl W (fbn W) (fw (W 0 5) (fbn W) w) = wl W (fbn W) (fw (W 0 5) (fbn W) u) ∧ cgn W (fw (W 0 5) (fbn W) w) (fbn W) < cgn W (fw (W 0 5) (fbn W) u) (fbn W)) then some w else some u) else o
def fo (W : Vw) (a : Nat) : Nat → Option Nat → Option Nat := fun l => Nat.rec (fun o => o) (fun l ih o => bst W (ih o) (a + l)) l
theorem fo_0 (W : Vw) (a : Nat) (o : Option Nat) : fo W a 0 o = o := rfl
theorem fo_s (W : Vw) (a l : Nat) (o : Option Nat) : fo W a (l + 1) o = bst W (fo W a l o) (a + l) := rfl
theorem fo_a (W : Vw) (a l m : Nat) (o : Option Nat) : fo W a (l + m) o = fo W (a + l) m (fo W a l o) := by
  induction m with
  | zero => rfl
  | succ m ih =>
    show fo W a ((l + m) + 1) o = _
    rw [fo_s, fo_s, ih, Nat.add_assoc]
theorem fo_bad {W : Vw} {a l : Nat} (h : ∀ i, i < l → gd W (fbn W) (fw (W 0 5) (fbn W) (a + i)) = false) (o : Option Nat) : fo W a l o = o := by
  induction l with
  | zero => rfl
  | succ l ih =>
    rw [fo_s, ih (fun i hi => h i (by omega))]
    unfold bst
    rw [h l (by omega)]
    rfl
