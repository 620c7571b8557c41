/-! PURE: texts: what their tokens are -/
/-- on from c, at most f steps, while q -/
def rn (q : Nat → Bool) (n : Nat) : Nat → Nat → Nat := fun f => Nat.rec (fun c => c) (fun _ ih c => if c < n ∧ q c = true then ih (c + 1) else c) f
theorem rn_s (q : Nat → Bool) (n f c : Nat) : rn q n (f + 1) c = if c < n ∧ q c = true then rn q n f (c + 1) else c := rfl
theorem rn_f (q : Nat → Bool) (n : Nat) : ∀ f g c, n ≤ c + f → n ≤ c + g → rn q n f c = rn q n g c := by
  intro f
  induction f with
  | zero =>
    intro g c h1 h2
    cases g with
    | zero => rfl
    | succ g => rw [rn_s, if_neg (by omega)]; rfl
  | succ f ih =>
    intro g c h1 h2
    cases g with
    | zero => rw [rn_s, if_neg (by omega)]; rfl
    | succ g =>
      rw [rn_s, rn_s]
      split
      · exact ih g (c + 1) (by omega) (by omega)
      · rfl
/-- on from c while q -/
def E (q : Nat → Bool) (n c : Nat) : Nat := rn q n n c
theorem E_y {q : Nat → Bool} {n c : Nat} (h : c < n) (hq : q c = true) : E q n c = E q n (c + 1) := by
  unfold E
  rw [rn_f q n n (n + 1) c (by omega) (by omega), rn_s, if_pos ⟨h, hq⟩]
theorem E_n {q : Nat → Bool} {n c : Nat} (h : ¬ (c < n ∧ q c = true)) : E q n c = c := by
  unfold E
  rw [rn_f q n n (n + 1) c (by omega) (by omega), rn_s, if_neg h]
/-- a claim on all runs -/
theorem E_ind {q : Nat → Bool} {n : Nat} {P : Nat → Prop} (h0 : ∀ c, ¬ (c < n ∧ q c = true) → P c) (h1 : ∀ c, c < n → q c = true → P (c + 1) → P c) : ∀ c, P c := by
  have key : ∀ k c, n - c < k → P c := by
    intro k
    induction k with
    | zero => intro c h; exact absurd h (Nat.not_lt_zero _)
    | succ k ih =>
      intro c h
      by_cases g : c < n ∧ q c = true
      · exact h1 c g.1 g.2 (ih (c + 1) (by omega))
      · exact h0 c g
  exact fun c => key (n - c + 1) c (Nat.lt_succ_self _)
theorem E_ge (q : Nat → Bool) (n : Nat) : ∀ c, c ≤ E q n c := E_ind (P := fun c => c ≤ E q n c) (fun c h => by rw [E_n h]; exact Nat.le_refl c) (fun c h hq ih => by rw [E_y h hq]; omega)
theorem E_le (q : Nat → Bool) (n : Nat) : ∀ c, c ≤ n → E q n c ≤ n := E_ind (P := fun c => c ≤ n → E q n c ≤ n) (fun c h hc => by rw [E_n h]; exact hc) (fun c h hq ih _ => by rw [E_y h hq]; exact ih h)
theorem E_in (q : Nat → Bool) (n : Nat) : ∀ c i, c ≤ i → i < E q n c → i < n ∧ q i = true := E_ind (P := fun c => ∀ i, c ≤ i → i < E q n c → i < n ∧ q i = true) (fun c h i h1 h2 => by rw [E_n h] at h2; omega) (fun c h hq ih i h1 h2 => by
  rw [E_y h hq] at h2
  rcases Nat.lt_or_ge c i with g | g
  · exact ih i g h2
  · have : i = c := by omega
    subst this
    exact ⟨h, hq⟩)
theorem E_end (q : Nat → Bool) (n : Nat) : ∀ c, ¬ (E q n c < n ∧ q (E q n c) = true) := E_ind (P := fun c => ¬ (E q n c < n ∧ q (E q n c) = true)) (fun c h => by rw [E_n h]; exact h) (fun c h hq ih => by rw [E_y h hq]; exact ih)
-- bytes
abbrev By : Type := Nat → Nat
def isW (x : Nat) : Bool := decide (x = 32) || decide (x = 10)
def isD (x : Nat) : Bool := decide (48 ≤ x) && decide (x ≤ 57)
def isL (x : Nat) : Bool := decide (97 ≤ x) && decide (x ≤ 122)
def isS (x : Nat) : Bool := decide (x = 40) || decide (x = 41) || decide (x = 59) || decide (x = 43) || decide (x = 45) || decide (x = 42) || decide (x = 60) || decide (x = 61)
/-- where the token stands that is read from c on -/
def pc (b : By) (n c : Nat) : Nat := E (fun i => isW (b i)) n c
def eD (b : By) (n c : Nat) : Nat := E (fun i => isD (b i)) n (pc b n c)
def eL (b : By) (n c : Nat) : Nat := E (fun i => isL (b i)) n (pc b n c)
/-- a number of digits -/
def dvl (b : By) (p : Nat) : Nat → Nat := fun l => Nat.rec 0 (fun l ih => 10 * ih + (b (p + l) - 48)) l
theorem dvl_s (b : By) (p l : Nat) : dvl b p (l + 1) = 10 * dvl b p l + (b (p + l) - 48) := rfl
/-- a word of letters -/
def wvl (b : By) (p : Nat) : Nat → Nat := fun l => Nat.rec 0 (fun l ih => 27 * ih + (b (p + l) - 96)) l
theorem wvl_s (b : By) (p l : Nat) : wvl b p (l + 1) = 27 * wvl b p l + (b (p + l) - 96) := rfl
/-- the word as a number; none has 0 -/
def wv (b : By) (n c : Nat) : Nat := if eL b n c - pc b n c ≤ 8 then wvl b (pc b n c) (eL b n c - pc b n c) else 0
def wtk (v : Nat) : Nat := if v = 456399 then 4 else if v = 262822 then 5 else if v = 453836 then 6 else if v = 423 then 7 else if v = 1111 then 8 else if v = 10631 then 9 else if v = 223456 ∨ v = 11055682 ∨ v = 465874 ∨ v = 247162 ∨ v = 381245 ∨ v = 4562587 then 3 else 1
def wnm (v : Nat) : Nat := if v = 223456 then 0 else if v = 11055682 then 1 else if v = 465874 then 2 else if v = 247162 then 3 else if v = 381245 then 4 else 5
/-- the token: 0 the end, 1 none, 2 a number, 3 a name, 4 5 6 the keys, 7 or, 8 and, 9 not; a sign is its own -/
def tk (b : By) (n c : Nat) : Nat := if n ≤ pc b n c then 0 else if isD (b (pc b n c)) = true then (if eD b n c - pc b n c ≤ 4 then 2 else 1) else if isL (b (pc b n c)) = true then wtk (wv b n c) else if isS (b (pc b n c)) = true then b (pc b n c) else 1
/-- where it ends -/
def nx (b : By) (n c : Nat) : Nat := if n ≤ pc b n c then pc b n c else if isD (b (pc b n c)) = true then eD b n c else if isL (b (pc b n c)) = true then eL b n c else pc b n c + 1
def nvl (b : By) (n c : Nat) : Nat := dvl b (pc b n c) (eD b n c - pc b n c)
/-- the step of a number or a name -/
def lf (b : By) (n c : Nat) : Int32 := if tk b n c = 2 then nI (nvl b n c) else -1 - nI (wnm (wv b n c))
theorem pc_ge (b : By) (n c : Nat) : c ≤ pc b n c := E_ge _ n c
theorem pc_le (b : By) (n c : Nat) (h : c ≤ n) : pc b n c ≤ n := E_le _ n c h
theorem wtk_r (v : Nat) : 1 ≤ wtk v ∧ wtk v ≤ 9 ∧ wtk v ≠ 2 := by
  unfold wtk
  split
  · decide
  · split
    · decide
    · split
      · decide
      · split
        · decide
        · split
          · decide
          · split
            · decide
            · split <;> decide
theorem isS_r {x : Nat} (h : isS x = true) : x = 40 ∨ x = 41 ∨ x = 59 ∨ x = 43 ∨ x = 45 ∨ x = 42 ∨ x = 60 ∨ x = 61 := by
  unfold isS at h
  simp at h
  omega
theorem eD_gt {b : By} {n c : Nat} (h : pc b n c < n) (hd : isD (b (pc b n c)) = true) : pc b n c < eD b n c := by
  unfold eD
  rw [E_y h hd]
  exact E_ge _ n _
theorem eL_gt {b : By} {n c : Nat} (h : pc b n c < n) (hd : isL (b (pc b n c)) = true) : pc b n c < eL b n c := by
  unfold eL
  rw [E_y h hd]
  exact E_ge _ n _
/-- a token that isn't the end takes a byte -/
theorem nx_gt {b : By} {n c : Nat} (hc : c ≤ n) (h : ¬ tk b n c = 0) : c < nx b n c ∧ nx b n c ≤ n := by
  have h1 := pc_ge b n c
  have h2 := pc_le b n c hc
  by_cases g : n ≤ pc b n c
  · exact absurd (by unfold tk; rw [if_pos g]) h
  · unfold nx
    rw [if_neg g]
    split
    · rename_i d
      have := eD_gt (by omega) d
      have : eD b n c ≤ n := E_le _ n _ h2
      omega
    · split
      · rename_i _ d
        have := eL_gt (by omega) d
        have : eL b n c ≤ n := E_le _ n _ h2
        omega
      · omega
-- reading: a fault's place, or the place behind and the steps
abbrev Rs : Type := Except Nat (Nat × List Int32)
def bl (op : Nat → Option Int32) (nxt : Nat → Nat) (sub : Nat → Rs) : Nat → Nat → List Int32 → Rs := fun f => Nat.rec (fun c L => .ok (c, L)) (fun _ ih c L => match op c with
  | none => .ok (c, L)
  | some s => match sub (nxt c) with
    | .error p => .error p
    | .ok (c', L') => ih c' (L ++ L' ++ [s])) f
theorem bl_0 (op : Nat → Option Int32) (nxt : Nat → Nat) (sub : Nat → Rs) (c : Nat) (L : List Int32) : bl op nxt sub 0 c L = .ok (c, L) := rfl
theorem bl_s (op : Nat → Option Int32) (nxt : Nat → Nat) (sub : Nat → Rs) (f c : Nat) (L : List Int32) : bl op nxt sub (f + 1) c L = match op c with
  | none => .ok (c, L)
  | some s => match sub (nxt c) with
    | .error p => .error p
    | .ok (c', L') => bl op nxt sub f c' (L ++ L' ++ [s]) := rfl
def bin (op : Nat → Option Int32) (nxt : Nat → Nat) (sub : Nat → Rs) (c : Nat) : Rs := match sub c with
  | .error p => .error p
  | .ok (c', L) => bl op nxt sub 160 c' L
def opE (b : By) (n c : Nat) : Option Int32 := if tk b n c = 7 then some (-124) else none
def opB (b : By) (n c : Nat) : Option Int32 := if tk b n c = 8 then some (-38) else none
def opA (b : By) (n c : Nat) : Option Int32 := if tk b n c = 43 then some (-43) else if tk b n c = 45 then some (-45) else none
def opT (b : By) (n c : Nat) : Option Int32 := if tk b n c = 42 then some (-42) else none
def opC (b : By) (n c : Nat) : Option Int32 := if tk b n c = 60 then some (-60) else if tk b n c = 61 then some (-61) else none
def mkO (b : By) (n : Nat) (opn : Nat → Nat → Rs) (c : Nat) : Rs := if tk b n c = 2 ∨ tk b n c = 3 then .ok (nx b n c, [lf b n c]) else if tk b n c = 45 then (match opn 5 c with
    | .error p => .error p
    | .ok (c', L) => .ok (c', L ++ [-126])) else if tk b n c = 40 then (match opn 0 c with
    | .error p => .error p
    | .ok (c', L) => if tk b n c' = 41 then .ok (nx b n c', L) else .error (pc b n c')) else .error (pc b n c)
def mkT (b : By) (n : Nat) (opn : Nat → Nat → Rs) (c : Nat) : Rs := bin (opT b n) (nx b n) (mkO b n opn) c
def mkA (b : By) (n : Nat) (opn : Nat → Nat → Rs) (c : Nat) : Rs := bin (opA b n) (nx b n) (mkT b n opn) c
def mkC (b : By) (n : Nat) (opn : Nat → Nat → Rs) (c : Nat) : Rs := match mkA b n opn c with
  | .error p => .error p
  | .ok (c1, L1) => match opC b n c1 with
    | none => .ok (c1, L1)
    | some s => match mkA b n opn (nx b n c1) with
      | .error p => .error p
      | .ok (c2, L2) => .ok (c2, L1 ++ L2 ++ [s])
def mkN (b : By) (n : Nat) (opn : Nat → Nat → Rs) (c : Nat) : Rs := if tk b n c = 9 then (match opn 2 c with
    | .error p => .error p
    | .ok (c', L) => .ok (c', L ++ [-33])) else mkC b n opn c
def mkB (b : By) (n : Nat) (opn : Nat → Nat → Rs) (c : Nat) : Rs := bin (opB b n) (nx b n) (mkN b n opn) c
def mkE (b : By) (n : Nat) (opn : Nat → Nat → Rs) (c : Nat) : Rs := bin (opE b n) (nx b n) (mkB b n opn) c
/-- one more open, r more may be: what stands behind the token at c -/
def opn (b : By) (n : Nat) : Nat → Nat → Nat → Rs := fun r => Nat.rec (fun _ c => .error (pc b n c)) (fun _ ih sel c => if sel = 0 then mkE b n ih (nx b n c) else if sel = 2 then mkN b n ih (nx b n c) else mkO b n ih (nx b n c)) r
theorem opn_0 (b : By) (n sel c : Nat) : opn b n 0 sel c = .error (pc b n c) := rfl
theorem opn_s (b : By) (n r sel c : Nat) : opn b n (r + 1) sel c = if sel = 0 then mkE b n (opn b n r) (nx b n c) else if sel = 2 then mkN b n (opn b n r) (nx b n c) else mkO b n (opn b n r) (nx b n c) := rfl
def pPt (b : By) (n key c : Nat) : Rs := if tk b n c = key then (match mkE b n (opn b n 5) (nx b n c) with
    | .error p => .error p
    | .ok (c', L) => if tk b n c' = 59 then .ok (nx b n c', L) else .error (pc b n c')) else .error (pc b n c)
/-- a text: its three parts -/
def pAll (b : By) (n : Nat) : Except Nat (List Int32 × List Int32 × List Int32) := match pPt b n 4 0 with
  | .error p => .error p
  | .ok (c1, L0) => match pPt b n 5 c1 with
    | .error p => .error p
    | .ok (c2, L1) => match pPt b n 6 c2 with
      | .error p => .error p
      | .ok (c3, L2) => if tk b n c3 = 0 then .ok (L0, L1, L2) else .error (pc b n c3)
-- what steps say
def jn (l s r : Int32) : Int32 := if s = -124 then (if ¬ l = 0 ∨ ¬ r = 0 then 1 else 0) else if s = -38 then (if ¬ l = 0 ∧ ¬ r = 0 then 1 else 0) else if s = -60 then (if l < r then 1 else 0) else if s = -61 then (if l = r then 1 else 0) else if s = -43 then l + r else if s = -45 then l - r else l * r
def un (s r : Int32) : Int32 := if s = -33 then (if r = 0 then 1 else 0) else -r
/-- a step of a value -/
def isLf (s : Int32) : Prop := (0 ≤ s ∧ s ≤ 9999) ∨ (s < 0 ∧ -6 ≤ s)
def isUn (s : Int32) : Prop := s = -33 ∨ s = -126
def isBn (s : Int32) : Prop := s = -124 ∨ s = -38 ∨ s = -60 ∨ s = -61 ∨ s = -43 ∨ s = -45 ∨ s = -42
def lv (nm : Nat → Int32) (s : Int32) : Int32 := if 0 ≤ s then s else nm (-1 - s).toNatClampNeg
/-- steps that leave one value: v values in them -/
def Ex (L : List Int32) (v : Nat) : Prop := ∀ P : List Int32 → Nat → Prop, (∀ s, isLf s → P [s] 1) → (∀ L v s, isUn s → P L v → P (L ++ [s]) v) → (∀ L1 L2 v1 v2 s, isBn s → P L1 v1 → P L2 v2 → P (L1 ++ L2 ++ [s]) (v1 + v2)) → P L v
theorem Ex_l {s : Int32} (h : isLf s) : Ex [s] 1 := fun _ h1 _ _ => h1 s h
theorem Ex_u {L : List Int32} {v : Nat} {s : Int32} (h : isUn s) (hL : Ex L v) : Ex (L ++ [s]) v := fun P h1 h2 h3 => h2 L v s h (hL P h1 h2 h3)
theorem Ex_b {L1 L2 : List Int32} {v1 v2 : Nat} {s : Int32} (h : isBn s) (hL1 : Ex L1 v1) (hL2 : Ex L2 v2) : Ex (L1 ++ L2 ++ [s]) (v1 + v2) := fun P h1 h2 h3 => h3 L1 L2 v1 v2 s h (hL1 P h1 h2 h3) (hL2 P h1 h2 h3)
/-- one step over a stack -/
def stp (nm : Nat → Int32) (s : Int32) (S : List Int32) : List Int32 := if -6 ≤ s then lv nm s :: S else if s = -33 ∨ s = -126 then (match S with
  | [] => []
  | r :: S => un s r :: S) else (match S with
  | r :: l :: S => jn l s r :: S
  | _ => [])
def run (nm : Nat → Int32) (L : List Int32) (S : List Int32) : List Int32 := L.foldl (fun S s => stp nm s S) S
theorem run_app (nm : Nat → Int32) (L M S : List Int32) : run nm (L ++ M) S = run nm M (run nm L S) := List.foldl_append
theorem run_1 (nm : Nat → Int32) (s : Int32) (S : List Int32) : run nm [s] S = stp nm s S := rfl
def val (nm : Nat → Int32) (L : List Int32) : Int32 := (run nm L []).headD 0
theorem isLf_6 {s : Int32} (h : isLf s) : -6 ≤ s := by
  rcases h with h | h
  · rw [fb_le] at h ⊢
    have e0 : (0 : Int32).toInt = 0 := by decide
    have e6 : (-6 : Int32).toInt = -6 := by decide
    omega
  · exact h.2
theorem stp_l (nm : Nat → Int32) {s : Int32} (h : isLf s) (S : List Int32) : stp nm s S = lv nm s :: S := by
  unfold stp
  rw [if_pos (isLf_6 h)]
theorem stp_u (nm : Nat → Int32) {s : Int32} (h : isUn s) (r : Int32) (S : List Int32) : stp nm s (r :: S) = un s r :: S := by
  unfold stp
  have h' : s = -33 ∨ s = -126 := h
  rw [if_neg (by rcases h with rfl | rfl <;> decide), if_pos h']
theorem stp_b (nm : Nat → Int32) {s : Int32} (h : isBn s) (r l : Int32) (S : List Int32) : stp nm s (r :: l :: S) = jn l s r :: S := by
  unfold stp
  rw [if_neg (by rcases h with rfl | rfl | rfl | rfl | rfl | rfl | rfl <;> decide), if_neg (by rcases h with rfl | rfl | rfl | rfl | rfl | rfl | rfl <;> decide)]
theorem run_E (nm : Nat → Int32) {L : List Int32} {v : Nat} (h : Ex L v) : ∀ S, run nm L S = val nm L :: S := by
  refine h (fun L _ => ∀ S, run nm L S = val nm L :: S) ?_ ?_ ?_
  · intro s hs S
    unfold val
    rw [run_1, run_1, stp_l nm hs, stp_l nm hs]
    rfl
  · intro L v s hs ih S
    unfold val
    rw [run_app, run_app, ih S, ih [], run_1, run_1, stp_u nm hs, stp_u nm hs]
    rfl
  · intro L1 L2 v1 v2 s hs ih1 ih2 S
    unfold val
    rw [run_app, run_app, run_app, run_app, ih1 S, ih1 [], ih2, ih2, run_1, run_1, stp_b nm hs, stp_b nm hs]
    rfl
theorem val_l (nm : Nat → Int32) {s : Int32} (h : isLf s) : val nm [s] = lv nm s := by
  unfold val
  rw [run_1, stp_l nm h]
  rfl
theorem val_u (nm : Nat → Int32) {L : List Int32} {v : Nat} {s : Int32} (h : isUn s) (hL : Ex L v) : val nm (L ++ [s]) = un s (val nm L) := by
  have e : val nm (L ++ [s]) = (run nm (L ++ [s]) []).headD 0 := rfl
  rw [e, run_app, run_E nm hL, run_1, stp_u nm h]
  rfl
theorem val_b (nm : Nat → Int32) {L1 L2 : List Int32} {v1 v2 : Nat} {s : Int32} (h : isBn s) (hL1 : Ex L1 v1) (hL2 : Ex L2 v2) : val nm (L1 ++ L2 ++ [s]) = jn (val nm L1) s (val nm L2) := by
  have e : val nm (L1 ++ L2 ++ [s]) = (run nm (L1 ++ L2 ++ [s]) []).headD 0 := rfl
  rw [e, run_app, run_app, run_E nm hL1, run_E nm hL2, run_1, stp_b nm h]
  rfl
