/-! THE ABSTRACT STORE: every object and array of a world has a number; ad gives its address, lay its layout, σ what it holds. -/
abbrev St : Type := (Nat → Nat → Int32) × (Nat → Nat → Int64) × (Nat → Nat → Option Nat)
def gI (σ : St) (c k : Nat) : Int32 := σ.1 c k
def gJ (σ : St) (c k : Nat) : Int64 := σ.2.1 c k
def gR (σ : St) (c k : Nat) : Option Nat := σ.2.2 c k
def uI (σ : St) (c k : Nat) (v : Int32) : St := (fun a b => if a = c ∧ b = k then v else σ.1 a b, σ.2.1, σ.2.2)
def uJ (σ : St) (c k : Nat) (v : Int64) : St := (σ.1, fun a b => if a = c ∧ b = k then v else σ.2.1 a b, σ.2.2)
def uR (σ : St) (c k : Nat) (v : Option Nat) : St := (σ.1, σ.2.1, fun a b => if a = c ∧ b = k then v else σ.2.2 a b)
/-- a whole row of ints -/
def rI (σ : St) (c : Nat) (f : Nat → Int32) : St := (fun a => if a = c then f else σ.1 a, σ.2.1, σ.2.2)
/-- a new cell: all 0 and null -/
def nC (σ : St) (c : Nat) : St := (fun a => if a = c then fun _ => 0 else σ.1 a, fun a => if a = c then fun _ => 0 else σ.2.1 a, fun a => if a = c then fun _ => none else σ.2.2 a)
theorem gI_uI (σ : St) (c k a b : Nat) (v : Int32) : gI (uI σ c k v) a b = if a = c ∧ b = k then v else gI σ a b := rfl
theorem gI_uJ (σ : St) (c k a b : Nat) (v : Int64) : gI (uJ σ c k v) a b = gI σ a b := rfl
theorem gI_uR (σ : St) (c k a b : Nat) (v : Option Nat) : gI (uR σ c k v) a b = gI σ a b := rfl
theorem gI_rI (σ : St) (c a b : Nat) (f : Nat → Int32) : gI (rI σ c f) a b = if a = c then f b else gI σ a b := by
  unfold gI rI; dsimp only; split <;> rfl
theorem gI_nC (σ : St) (c a b : Nat) : gI (nC σ c) a b = if a = c then 0 else gI σ a b := by
  unfold gI nC; dsimp only; split <;> rfl
theorem gJ_uI (σ : St) (c k a b : Nat) (v : Int32) : gJ (uI σ c k v) a b = gJ σ a b := rfl
theorem gJ_uJ (σ : St) (c k a b : Nat) (v : Int64) : gJ (uJ σ c k v) a b = if a = c ∧ b = k then v else gJ σ a b := rfl
theorem gJ_uR (σ : St) (c k a b : Nat) (v : Option Nat) : gJ (uR σ c k v) a b = gJ σ a b := rfl
theorem gJ_rI (σ : St) (c a b : Nat) (f : Nat → Int32) : gJ (rI σ c f) a b = gJ σ a b := rfl
theorem gJ_nC (σ : St) (c a b : Nat) : gJ (nC σ c) a b = if a = c then 0 else gJ σ a b := by
  unfold gJ nC; dsimp only; split <;> rfl
theorem gR_uI (σ : St) (c k a b : Nat) (v : Int32) : gR (uI σ c k v) a b = gR σ a b := rfl
theorem gR_uJ (σ : St) (c k a b : Nat) (v : Int64) : gR (uJ σ c k v) a b = gR σ a b := rfl
theorem gR_uR (σ : St) (c k a b : Nat) (v : Option Nat) : gR (uR σ c k v) a b = if a = c ∧ b = k then v else gR σ a b := rfl
theorem gR_rI (σ : St) (c a b : Nat) (f : Nat → Int32) : gR (rI σ c f) a b = gR σ a b := rfl
theorem gR_nC (σ : St) (c a b : Nat) : gR (nC σ c) a b = if a = c then none else gR σ a b := by
  unfold gR nC; dsimp only; split <;> rfl
/-- a truth value -/
def isB (v : Int32) : Prop := v = 0 ∨ v = 1
theorem isB_0 : isB 0 := Or.inl rfl
theorem isB_1 : isB 1 := Or.inr rfl
theorem isB_narrow {v : Int32} (h : isB v) : narrow .boolean (.int v) = .int v := by rcases h with rfl | rfl <;> rfl
theorem isB_fits {v : Int32} (h : isB v) : fits .boolean (.int v) = true := by rcases h with rfl | rfl <;> rfl
theorem isB_nar {v : Int32} (h : isB v) : vp_nar .boolean v = v := by rcases h with rfl | rfl <;> rfl
-- the classes whose objects the worlds hold
abbrev vwCl : List vw_C := [(RX0, TX0, 13), (RX1, TX1, 13), (RX2, TX2, 13), (RX3, TX3, 13), (RX4, TX4, 13), (RX5, TX5, 9), (RX6, TX6, 18), (RX7, TX7, 7), (RX8, TX8, 3), (RX9, TX9, 5), (RX10, TX10, 13), (RX11, TX11, 13), (RX12, TX12, 71)]
-- classes by their places in vwCl: how many fields, and of what sort each
def xC (ci : Nat) : String × u_T × Nat := (vwCl[ci]?).getD (RX0, TX0, 13)
def xTy (ci : Nat) : Nat → FieldType := match ci with
  | 0 => tyX0
  | 1 => tyX1
  | 2 => tyX2
  | 3 => tyX3
  | 4 => tyX4
  | 5 => tyX5
  | 6 => tyX6
  | 7 => tyX7
  | 8 => tyX8
  | 9 => tyX9
  | 10 => tyX10
  | 11 => tyX11
  | _ => tyX12
def xc (t : FieldType) : Nat := match t with
  | .int => 0
  | .boolean => 0
  | .long => 1
  | _ => 2
def xR (st : Nat → Nat → Option Nat) (σ : St) (c k : Nat) : Option Nat := match st c k with
  | some d => some d
  | none => gR σ c k
def xV (st : Nat → Nat → Option Nat) (ad : Nat → Nat) (σ : St) (c k t : Nat) : Value := match t with
  | 0 => .int (gI σ c k)
  | 1 => .long (gJ σ c k)
  | _ => va_rf ((xR st σ c k).map ad)
def xF (st : Nat → Nat → Option Nat) (ad : Nat → Nat) (σ : St) (c ci : Nat) : List Value := (List.range (xC ci).2.2).map (fun k => xV st ad σ c k (xc (xTy ci k)))
/-- what a cell holds: layout 0, an object of a class; 1, 2, 3: ints, longs, booleans; 4 + j: references of the sort j -/
def xE (lay : Nat → Nat × Nat) (st : Nat → Nat → Option Nat) (KA : Nat → ClassId) (ad : Nat → Nat) (σ : St) (c : Nat) : va_E := match lay c with
  | (0, ci) => .inr (ci, xF st ad σ c ci)
  | (1, n) => .inl (KA 0, n, .inl (σ.1 c))
  | (2, n) => .inl (KA 1, n, .inr (.inl (σ.2.1 c)))
  | (3, n) => .inl (KA 2, n, .inl (σ.1 c))
  | (j + 4, n) => .inl (KA (j + 3), n, .inr (.inr (.inr (.inr (fun k => (xR st σ c k).map ad)))))
def xws (lay : Nat → Nat × Nat) (st : Nat → Nat → Option Nat) (KA : Nat → ClassId) (ad : Nat → Nat) (ids : List Nat) (σ : St) : va_W := ids.map (fun c => (ad c, xE lay st KA ad σ c))
/-- the sorts of arrays -/
def xtys (KA : Nat → ClassId) : List (ClassId × FieldType) := [(KA 0, .int), (KA 1, .long), (KA 2, .boolean), (KA 3, .object RX0), (KA 4, .object RX5), (KA 5, .object RX8), (KA 6, .object RX9)]
theorem xE_sim {lay : Nat → Nat × Nat} {st : Nat → Nat → Option Nat} {KA : Nat → ClassId} {ad : Nat → Nat} {σ τ : St} {c : Nat} (h1 : τ.1 c = σ.1 c) (h2 : τ.2.1 c = σ.2.1 c) (h3 : τ.2.2 c = σ.2.2 c) : xE lay st KA ad τ c = xE lay st KA ad σ c := by
  have e : ∀ k, xR st τ c k = xR st σ c k := fun k => by unfold xR gR; rw [h3]
  have f : ∀ k t, xV st ad τ c k t = xV st ad σ c k t := fun k t => by
    unfold xV gI gJ; rw [h1, h2, e]
  unfold xE xF
  simp only [h1, h2, e, f]
theorem xE_obj {lay : Nat → Nat × Nat} {st : Nat → Nat → Option Nat} {KA : Nat → ClassId} {ad : Nat → Nat} {σ : St} {c ci : Nat} (h : lay c = (0, ci)) : xE lay st KA ad σ c = .inr (ci, xF st ad σ c ci) := by unfold xE; rw [h]
theorem xE_i {lay : Nat → Nat × Nat} {st : Nat → Nat → Option Nat} {KA : Nat → ClassId} {ad : Nat → Nat} {σ : St} {c n : Nat} (h : lay c = (1, n)) : xE lay st KA ad σ c = .inl (KA 0, n, .inl (gI σ c)) := by unfold xE; rw [h]; rfl
theorem xE_j {lay : Nat → Nat × Nat} {st : Nat → Nat → Option Nat} {KA : Nat → ClassId} {ad : Nat → Nat} {σ : St} {c n : Nat} (h : lay c = (2, n)) : xE lay st KA ad σ c = .inl (KA 1, n, .inr (.inl (gJ σ c))) := by unfold xE; rw [h]; rfl
theorem xE_z {lay : Nat → Nat × Nat} {st : Nat → Nat → Option Nat} {KA : Nat → ClassId} {ad : Nat → Nat} {σ : St} {c n : Nat} (h : lay c = (3, n)) : xE lay st KA ad σ c = .inl (KA 2, n, .inl (gI σ c)) := by unfold xE; rw [h]; rfl
theorem xE_r {lay : Nat → Nat × Nat} {st : Nat → Nat → Option Nat} {KA : Nat → ClassId} {ad : Nat → Nat} {σ : St} {c n j : Nat} (h : lay c = (j + 4, n)) : xE lay st KA ad σ c = .inl (KA (j + 3), n, .inr (.inr (.inr (.inr (fun k => (xR st σ c k).map ad))))) := by unfold xE; rw [h]
theorem xF_get {st : Nat → Nat → Option Nat} {ad : Nat → Nat} {σ : St} {c ci k : Nat} (hk : k < (xC ci).2.2) : (xF st ad σ c ci)[k]? = some (xV st ad σ c k (xc (xTy ci k))) := by
  unfold xF; simp [hk]
theorem xF_len {st : Nat → Nat → Option Nat} {ad : Nat → Nat} {σ : St} {c ci : Nat} : (xF st ad σ c ci).length = (xC ci).2.2 := by unfold xF; simp
theorem xF_set {st : Nat → Nat → Option Nat} {ad : Nat → Nat} {σ τ : St} {c ci k : Nat} {v : Value} (hk : k < (xC ci).2.2) (hv : xV st ad τ c k (xc (xTy ci k)) = v) (ho : ∀ j, j < (xC ci).2.2 → j ≠ k → ∀ t, xV st ad τ c j t = xV st ad σ c j t) : (xF st ad σ c ci).set k v = xF st ad τ c ci := by
  apply List.ext_getElem?
  intro j
  by_cases hj : j = k
  · subst hj
    rw [List.getElem?_set_self (by rw [xF_len]; exact hk), xF_get hk, hv]
  · rw [List.getElem?_set_ne (Ne.symm hj)]
    by_cases hl : j < (xC ci).2.2
    · rw [xF_get hl, xF_get hl, ho j hl hj]
    · rw [List.getElem?_eq_none (by rw [xF_len]; omega), List.getElem?_eq_none (by rw [xF_len]; omega)]
theorem xws_get {lay : Nat → Nat × Nat} {st : Nat → Nat → Option Nat} {KA : Nat → ClassId} {ad : Nat → Nat} {ids : List Nat} {σ : St} {c q : Nat} (h : ids[q]? = some c) : (xws lay st KA ad ids σ)[q]? = some (ad c, xE lay st KA ad σ c) := by
  unfold xws; rw [List.getElem?_map, h]; rfl
theorem xws_in {lay : Nat → Nat × Nat} {st : Nat → Nat → Option Nat} {KA : Nat → ClassId} {ad : Nat → Nat} {ids : List Nat} {σ : St} {q : Nat} {e : Nat × va_E} (h : (xws lay st KA ad ids σ)[q]? = some e) : ∃ c, ids[q]? = some c ∧ e = (ad c, xE lay st KA ad σ c) := by
  unfold xws at h; rw [List.getElem?_map] at h
  cases hc : ids[q]? with
  | none => rw [hc] at h; cases h
  | some c => rw [hc] at h; cases h; exact ⟨c, rfl, rfl⟩
theorem xws_set {lay : Nat → Nat × Nat} {st : Nat → Nat → Option Nat} {KA : Nat → ClassId} {ad : Nat → Nat} {A : Nat → Prop} {ids : List Nat} {σ τ : St} {c q : Nat} {e : va_E} (hD : va_D A (xws lay st KA ad ids σ)) (h : ids[q]? = some c) (he : xE lay st KA ad τ c = e) (ho : ∀ a, a ≠ c → τ.1 a = σ.1 a ∧ τ.2.1 a = σ.2.1 a ∧ τ.2.2 a = σ.2.2 a) : (xws lay st KA ad ids σ).set q (ad c, e) = xws lay st KA ad ids τ := by
  apply List.ext_getElem?
  intro j
  by_cases hj : j = q
  · subst hj
    have hl := (List.getElem?_eq_some_iff.mp (xws_get (lay := lay) (st := st) (KA := KA) (ad := ad) (σ := σ) h)).1
    rw [List.getElem?_set_self hl, xws_get h, he]
  · rw [List.getElem?_set_ne (Ne.symm hj)]
    cases hc : ids[j]? with
    | none =>
      unfold xws
      rw [List.getElem?_map, List.getElem?_map, hc]
      rfl
    | some a =>
      rw [xws_get hc, xws_get hc]
      have hne : a ≠ c := by
        intro hac
        subst hac
        exact hj (hD.1 j q _ _ (xws_get hc) (xws_get h) rfl)
      obtain ⟨h1, h2, h3⟩ := ho a hne
      rw [xE_sim h1 h2 h3]
/-- the cells that a method may change: those of its world, and new ones -/
def xA (ad : Nat → Nat) (ids : List Nat) (sz : Nat) : Nat → Prop := fun q => (∃ c ∈ ids, ad c = q) ∨ sz ≤ q
/-- the world in a heap -/
def xW (D : va_G) (KA : Nat → ClassId) (lay : Nat → Nat × Nat) (st : Nat → Nat → Option Nat) (ad : Nat → Nat) (ids : List Nat) (A : Nat → Prop) (H0 : Heap) (σ : St) (H : Heap) (locs : List Loc) : Prop :=
  va_P D vwCl (xws lay st KA ad ids σ) H ∧ va_D A (xws lay st KA ad ids σ) ∧ va_S A H0 H locs
/-- calls among nest mates -/
def xNest : List (String × Nat × MethodName × String) := [(RX6, 168, yX11_lowestBit, RX11), (RX11, 9, yX6_init, RX11), (RX11, 18, yX7_init, RX11), (RX11, 29, yX9_init, RX11), (RX11, 64, yX8_init, RX11)]
/-- which classes are no classes of others, and which are: for instanceof -/
def xCst (U : State) : Prop := (∀ i j : Nat, i ∈ [0, 1, 2, 3, 4, 10] → j ∈ [0, 1, 2, 3, 4, 10] → i ≠ j → ((j = 0 ∨ (i = 4 ∧ j = 3) ∨ (i = 10 ∧ j = 2)) → va_Nw (.castable (xC i).1 (xC j).1) U) ∧ (¬ (j = 0 ∨ (i = 4 ∧ j = 3) ∨ (i = 10 ∧ j = 2)) → va_Nc (xC i).1 (xC j).1 U)) ∧ (∀ q ∈ xNest, va_Nw (.methodLinkNest q.1 q.2.1 q.2.2.1 q.2.2.2) U) ∧ ∀ C ∈ [RX0, RX5, RX8, RX9], va_AO C U
/-- what a method's start knows of the classes -/
def xK (D : va_G) (KA : Nat → ClassId) (U : State) : Prop := va_K D vwCl (xtys KA) U ∧ xCst U
/-- the String constants: the first rule, the signs, the words -/
def xLen : List Nat := [51, 8, 72]
def xByt : List (List Int32) := [[119, 101, 97, 114, 32, 108, 111, 97, 100, 32, 42, 32, 104, 111, 117, 114, 115, 32, 59, 32, 109, 105, 110, 100, 32, 53, 32, 60, 32, 119, 114, 97, 112, 32, 59, 32, 119, 97, 110, 116, 32, 115, 105, 122, 101, 32, 43, 32, 51, 32, 59], [40, 41, 59, 43, 45, 42, 60, 61], [107, 105, 110, 100, 32, 32, 116, 117, 114, 110, 115, 32, 119, 114, 97, 112, 32, 32, 108, 111, 97, 100, 32, 32, 115, 105, 122, 101, 32, 32, 104, 111, 117, 114, 115, 32, 119, 101, 97, 114, 32, 32, 109, 105, 110, 100, 32, 32, 119, 97, 110, 116, 32, 32, 111, 114, 32, 32, 32, 32, 97, 110, 100, 32, 32, 32, 110, 111, 116, 32, 32, 32]]
abbrev ZS : Type := (Nat → Nat) × (Nat → Nat)
/-- what nobody writes: String constants, two statics of the JDK's -/
def xZ (zs : ZS) (A : Nat → Prop) (U : State) : Prop := vk_S 3 xLen xByt zs.1 zs.2 A U U.heap ∧ va_Z "java/lang/String" "COMPACT_STRINGS" "Z" (.int 1) A U U.heap ∧ (∃ v, va_Z "jdk/internal/util/Preconditions" "SIOOBE_FORMATTER" "Ljava/util/function/BiFunction;" (va_rf v) A U U.heap) ∧ vk_R RX11 30 "wear load * hours ; mind 5 < wrap ; want size + 3 ;" (zs.1 0) U ∧ vk_R RX7 99 "();+-*<=" (zs.1 1) U ∧ vk_R RX7 110 "kind  turns wrap  load  size  hours wear  mind  want  or    and   not   " (zs.1 2) U
theorem xZ_moved {zs : ZS} {A B : Nat → Prop} {s U : State} {H : Heap} (hU : U.heap = H) (hw : s.WarmedH U.vm) (hq : ∀ a : Nat, a < s.heap.size → ¬ A a → H[a]? = s.heap[a]?) (hAB : ∀ q, B q → A q) (h : xZ zs A s) : xZ zs B U := by
  obtain ⟨h1, h2, ⟨v, h3⟩, h4, h5, h6⟩ := h
  subst hU
  exact ⟨vk_S.moved hw.alike ((h1.kept hq).narrow hAB), va_Z.moved hw.alike ((h2.kept hq).narrow hAB), ⟨v, va_Z.moved hw.alike ((h3.kept hq).narrow hAB)⟩, h4.warm hw, h5.warm hw, h6.warm hw⟩
theorem xZ_vm {zs : ZS} {A : Nat → Prop} {u U : State} (hv : u.vm = U.vm) (hh : U.heap = u.heap) (h : xZ zs A u) : xZ zs A U := by
  obtain ⟨h1, h2, ⟨v, h3⟩, h4, h5, h6⟩ := h
  have ha : u.vm.Alike U.vm := by rw [hv]; exact Vm.Alike.refl U.vm
  unfold xZ
  rw [hh]
  exact ⟨vk_S.moved ha h1, va_Z.moved ha h2, ⟨v, va_Z.moved ha h3⟩, h4.same hv.symm, h5.same hv.symm, h6.same hv.symm⟩
theorem xCst_moved {u U : State} (hw : u.WarmedH U.vm) (h : xCst u) : xCst U := ⟨fun i j hi hj hn => ⟨fun e => va_Nw.warmC hw ((h.1 i j hi hj hn).1 e), fun e => va_Nc.moved hw.alike ((h.1 i j hi hj hn).2 e)⟩, fun q hq => va_Nw.warmM hw (h.2.1 q hq), fun C hC => va_AO.moved hw.alike (h.2.2 C hC)⟩
theorem xCst_vm {u U : State} (hw : u.vm = U.vm) (h : xCst u) : xCst U := ⟨fun i j hi hj hn => ⟨fun e => va_Nw.same rfl hw ((h.1 i j hi hj hn).1 e), fun e => va_Nc.moved (by rw [hw]; exact Vm.Alike.refl U.vm) ((h.1 i j hi hj hn).2 e)⟩, fun q hq => va_Nw.same rfl hw (h.2.1 q hq), fun C hC => va_AO.moved (by rw [hw]; exact Vm.Alike.refl U.vm) (h.2.2 C hC)⟩
theorem xK_moved {D : va_G} {KA : Nat → ClassId} {u U : State} (hw : u.WarmedH U.vm) (h : xK D KA u) : xK D KA U := ⟨va_K.moved hw.alike h.1, xCst_moved hw h.2⟩
theorem xK_vm {D : va_G} {KA : Nat → ClassId} {u U : State} (hw : u.vm = U.vm) (h : xK D KA u) : xK D KA U := ⟨va_K.moved (by rw [hw]; exact Vm.Alike.refl U.vm) h.1, xCst_vm hw h.2⟩
/-- the world at a method's start and end -/
def xOut (D : va_G) (KA : Nat → ClassId) (lay : Nat → Nat × Nat) (st : Nat → Nat → Option Nat) (ad : Nat → Nat) (ids : List Nat) (σ : St) (U : State) : Prop :=
  va_P D vwCl (xws lay st KA ad ids σ) U.heap ∧ va_D (fun _ => True) (xws lay st KA ad ids σ)
def xIn (D : va_G) (KA : Nat → ClassId) (zs : ZS) (lay : Nat → Nat × Nat) (st : Nat → Nat → Option Nat) (ad : Nat → Nat) (ids : List Nat) (sz : Nat) (σ : St) (U : State) : Prop :=
  U.heap.size = sz ∧ xK D KA U ∧ xZ zs (xA ad ids sz) U ∧ xOut D KA lay st ad ids σ U
theorem xA_D {D : va_G} {KA : Nat → ClassId} {lay : Nat → Nat × Nat} {st : Nat → Nat → Option Nat} {ad : Nat → Nat} {ids : List Nat} {σ : St} {sz : Nat} {B : Nat → Prop} (h : va_D B (xws lay st KA ad ids σ)) : va_D (xA ad ids sz) (xws lay st KA ad ids σ) :=
  h.weaken (fun k q hk _ => by
    obtain ⟨c, hc, rfl⟩ := xws_in hk
    exact Or.inl ⟨c, List.mem_of_getElem? hc, rfl⟩)
theorem xA_le {ad : Nat → Nat} {ids : List Nat} {A : Nat → Prop} {D : va_G} {KA : Nat → ClassId} {lay : Nat → Nat × Nat} {st : Nat → Nat → Option Nat} {σ : St} {H0 H : Heap} {locs : List Loc} (hW : xW D KA lay st ad ids A H0 σ H locs) (hA : ∀ q, H0.size ≤ q → A q) : ∀ q, xA ad ids H.size q → A q := by
  intro q h
  rcases h with ⟨c, hc, rfl⟩ | h
  · obtain ⟨k, hk⟩ := List.getElem?_of_mem hc
    exact hW.2.1.2 k _ (xws_get (lay := lay) (st := st) (KA := KA) (ad := ad) (σ := σ) hk)
  · exact hA q (Nat.le_trans hW.2.2.1 h)
theorem xD_le {ad : Nat → Nat} {ids : List Nat} {A B : Nat → Prop} {KA : Nat → ClassId} {lay : Nat → Nat × Nat} {st : Nat → Nat → Option Nat} {σ τ : St} (h : va_D A (xws lay st KA ad ids σ)) (h2 : va_D B (xws lay st KA ad ids τ)) : va_D A (xws lay st KA ad ids τ) :=
  h2.weaken (fun k q hk _ => by
    obtain ⟨c, hc, rfl⟩ := xws_in hk
    exact h.2 k (ad c, xE lay st KA ad σ c) (xws_get hc))
section XR
variable {p : Program} {l : Launch} {e : Env} {R : Room} {s : State} {m : MethodId} {args : Array Value} {below : List Frame} {meth : Method} {c : Code} {H : Heap} {locs : List Loc} {cells slots : Nat} {Q : State → Prop}
variable {cc : ByteArray} {pc : Nat} {ls : Array Slot} {rest : List Value} {D : va_G} {KA : Nat → ClassId} {lay : Nat → Nat × Nat} {st : Nat → Nat → Option Nat} {ad : Nat → Nat} {ids : List Nat} {A : Nat → Prop} {H0 : Heap} {σ : St}
theorem x_get (hexec : p.tables.exec = Jvm.exec) (hb : c.code = cc) {own ref : String} {index : Nat} {Ts : List Cond} (hts : ∀ w ∈ Ts, w.before args s = true) (hown : s.vm.findClass own = some m.cls) (hK : xK D KA s) (hW : xW D KA lay st ad ids A H0 σ H locs) (o ci k : Nat) (hin : ∀ w ∈ u_ws (xC ci).1 (xC ci).2.1 (xC ci).2.2, w ∈ Ts) (ho : o ∈ ids) (hl : lay o = (0, ci)) (hcl : vwCl[ci]? = some (xC ci)) (hk : k < (xC ci).2.2) (hlink : (Cond.fieldLink own index ref ((xC ci).2.1 k).2.1 ((xC ci).2.1 k).2.2.1).before args s = true) (hsame : ∀ x, s.fieldFound? ((xC ci).2.1 k).1 ((xC ci).2.1 k).2.1 ((xC ci).2.1 k).2.2.1 = some x → s.fieldFound? ref ((xC ci).2.1 k).2.1 ((xC ci).2.1 k).2.2.1 = some x) {v : Value} (hv : xV st ad σ o k (xc (xTy ci k)) = v) (hdg : decode cc pc = .ok (.getfield index, 3))
    (kk : W p l e R s m args below meth c H locs cells slots Q (F0 m (pc + 3) ls (v :: rest))) : W p l e R s m args below meth c H locs cells slots Q (F0 m pc ls (.ref (ad o) :: rest)) := by
  obtain ⟨q, hq⟩ := List.getElem?_of_mem ho
  exact va_get hexec hb hts hin hown hK.1 hW.1 q (fs := xF st ad σ o ci) (by rw [xws_get hq, xE_obj hl]) hcl k hk hlink hsame (v := v) (by rw [xF_get hk, hv]) hdg kk
theorem x_iald (hexec : p.tables.exec = Jvm.exec) (hb : c.code = cc) (hK : xK D KA s) (hW : xW D KA lay st ad ids A H0 σ H locs) (o : Nat) {n : Nat} (ho : o ∈ ids) (hl : lay o = (1, n)) {i : Int32} (hin : vp_in i n) (hdg : decode cc pc = .ok (.iaload, 1))
    (kk : W p l e R s m args below meth c H locs cells slots Q (F0 m (pc + 1) ls (.int (gI σ o i.toNatClampNeg) :: rest))) : W p l e R s m args below meth c H locs cells slots Q (F0 m pc ls (.int i :: .ref (ad o) :: rest)) := by
  obtain ⟨q, hq⟩ := List.getElem?_of_mem ho
  exact va_iald hexec hb hK.1 hW.1 q 0 (by rw [xws_get hq, xE_i hl]) rfl hin hdg kk
theorem x_lald (hexec : p.tables.exec = Jvm.exec) (hb : c.code = cc) (hK : xK D KA s) (hW : xW D KA lay st ad ids A H0 σ H locs) (o : Nat) {n : Nat} (ho : o ∈ ids) (hl : lay o = (2, n)) {i : Int32} (hin : vp_in i n) (hdg : decode cc pc = .ok (.laload, 1))
    (kk : W p l e R s m args below meth c H locs cells slots Q (F0 m (pc + 1) ls (.long (gJ σ o i.toNatClampNeg) :: rest))) : W p l e R s m args below meth c H locs cells slots Q (F0 m pc ls (.int i :: .ref (ad o) :: rest)) := by
  obtain ⟨q, hq⟩ := List.getElem?_of_mem ho
  exact va_lald hexec hb hK.1 hW.1 q 1 (by rw [xws_get hq, xE_j hl]) rfl hin hdg kk
theorem x_zald (hexec : p.tables.exec = Jvm.exec) (hb : c.code = cc) (hK : xK D KA s) (hW : xW D KA lay st ad ids A H0 σ H locs) (o : Nat) {n : Nat} (ho : o ∈ ids) (hl : lay o = (3, n)) {i : Int32} (hin : vp_in i n) (hdg : decode cc pc = .ok (.baload, 1))
    (kk : W p l e R s m args below meth c H locs cells slots Q (F0 m (pc + 1) ls (.int (gI σ o i.toNatClampNeg) :: rest))) : W p l e R s m args below meth c H locs cells slots Q (F0 m pc ls (.int i :: .ref (ad o) :: rest)) := by
  obtain ⟨q, hq⟩ := List.getElem?_of_mem ho
  exact va_zald hexec hb hK.1 hW.1 q 2 (by rw [xws_get hq, xE_z hl]) rfl hin hdg kk
/-- an array of references; its element is d -/
theorem x_ald (hexec : p.tables.exec = Jvm.exec) (hb : c.code = cc) (hK : xK D KA s) (hW : xW D KA lay st ad ids A H0 σ H locs) (o j : Nat) {n : Nat} {C : String} (ho : o ∈ ids) (hl : lay o = (j + 4, n)) (hj : (xtys KA)[j + 3]? = some (KA (j + 3), .object C)) {i : Int32} (hin : vp_in i n) {d : Nat} (hd : xR st σ o i.toNatClampNeg = some d) (hdg : decode cc pc = .ok (.aaload, 1))
    (kk : W p l e R s m args below meth c H locs cells slots Q (F0 m (pc + 1) ls (.ref (ad d) :: rest))) : W p l e R s m args below meth c H locs cells slots Q (F0 m pc ls (.int i :: .ref (ad o) :: rest)) := by
  obtain ⟨q, hq⟩ := List.getElem?_of_mem ho
  refine va_aldq hexec hb hK.1 hW.1 q (j + 3) (C := C) (by rw [xws_get hq, xE_r hl]) hj hin hdg ?_
  rw [hd]
  exact kk
theorem x_alen (hexec : p.tables.exec = Jvm.exec) (hb : c.code = cc) (hK : xK D KA s) (hW : xW D KA lay st ad ids A H0 σ H locs) (o : Nat) {n : Nat} (ho : o ∈ ids) (hl : lay o = (1, n)) (hdg : decode cc pc = .ok (.arraylength, 1))
    (kk : W p l e R s m args below meth c H locs cells slots Q (F0 m (pc + 1) ls (.int (Int32.ofNat n) :: rest))) : W p l e R s m args below meth c H locs cells slots Q (F0 m pc ls (.ref (ad o) :: rest)) := by
  obtain ⟨q, hq⟩ := List.getElem?_of_mem ho
  exact va_alen hexec hb hK.1 hW.1 q 0 (by rw [xws_get hq, xE_i hl]) rfl rfl hdg kk
theorem x_iast (hexec : p.tables.exec = Jvm.exec) (hb : c.code = cc) (hK : xK D KA s) (hW : xW D KA lay st ad ids A H0 σ H locs) (o : Nat) {n : Nat} (ho : o ∈ ids) (hl : lay o = (1, n)) {i x : Int32} (hin : vp_in i n) (hdg : decode cc pc = .ok (.iastore, 1))
    (kk : ∀ (τ : St) (H1 : Heap) (locs1 : List Loc), τ = uI σ o i.toNatClampNeg x → xW D KA lay st ad ids A H0 τ H1 locs1 → W p l e R s m args below meth c H1 locs1 cells slots Q (F0 m (pc + 1) ls rest)) : W p l e R s m args below meth c H locs cells slots Q (F0 m pc ls (.int x :: .int i :: .ref (ad o) :: rest)) := by
  obtain ⟨q, hq⟩ := List.getElem?_of_mem ho
  have hs : (xws lay st KA ad ids σ).set q (ad o, .inl (KA 0, n, .inl (upd (gI σ o) i.toNatClampNeg x))) = xws lay st KA ad ids (uI σ o i.toNatClampNeg x) := by
    refine xws_set hW.2.1 hq ?_ (fun a ha => ⟨?_, rfl, rfl⟩)
    · rw [xE_i hl]
      congr 4
      funext j
      simp [upd, gI_uI]
    · funext b
      simp [uI, ha]
  refine va_iast hexec hb hK.1 hW.1 hW.2.1 hW.2.2 q 0 (by rw [xws_get hq, xE_i hl]) rfl hin hdg (fun H1 locs1 h1 h2 h3 => ?_)
  rw [hs] at h1 h2
  exact kk _ H1 locs1 rfl ⟨h1, h2, h3⟩
theorem x_last (hexec : p.tables.exec = Jvm.exec) (hb : c.code = cc) (hK : xK D KA s) (hW : xW D KA lay st ad ids A H0 σ H locs) (o : Nat) {n : Nat} (ho : o ∈ ids) (hl : lay o = (2, n)) {i : Int32} {x : Int64} (hin : vp_in i n) (hdg : decode cc pc = .ok (.lastore, 1))
    (kk : ∀ (τ : St) (H1 : Heap) (locs1 : List Loc), τ = uJ σ o i.toNatClampNeg x → xW D KA lay st ad ids A H0 τ H1 locs1 → W p l e R s m args below meth c H1 locs1 cells slots Q (F0 m (pc + 1) ls rest)) : W p l e R s m args below meth c H locs cells slots Q (F0 m pc ls (.long x :: .int i :: .ref (ad o) :: rest)) := by
  obtain ⟨q, hq⟩ := List.getElem?_of_mem ho
  have hs : (xws lay st KA ad ids σ).set q (ad o, .inl (KA 1, n, .inr (.inl (vp_updL (gJ σ o) i.toNatClampNeg x)))) = xws lay st KA ad ids (uJ σ o i.toNatClampNeg x) := by
    refine xws_set hW.2.1 hq ?_ (fun a ha => ⟨rfl, ?_, rfl⟩)
    · rw [xE_j hl]
      congr 5
      funext j
      simp [vp_updL, gJ_uJ]
    · funext b
      simp [uJ, ha]
  refine va_last hexec hb hK.1 hW.1 hW.2.1 hW.2.2 q 1 (by rw [xws_get hq, xE_j hl]) rfl hin hdg (fun H1 locs1 h1 h2 h3 => ?_)
  rw [hs] at h1 h2
  exact kk _ H1 locs1 rfl ⟨h1, h2, h3⟩
theorem x_zast (hexec : p.tables.exec = Jvm.exec) (hb : c.code = cc) (hK : xK D KA s) (hW : xW D KA lay st ad ids A H0 σ H locs) (o : Nat) {n : Nat} (ho : o ∈ ids) (hl : lay o = (3, n)) {i x : Int32} (hin : vp_in i n) (hx : isB x) (hdg : decode cc pc = .ok (.bastore, 1))
    (kk : ∀ (τ : St) (H1 : Heap) (locs1 : List Loc), τ = uI σ o i.toNatClampNeg x → xW D KA lay st ad ids A H0 τ H1 locs1 → W p l e R s m args below meth c H1 locs1 cells slots Q (F0 m (pc + 1) ls rest)) : W p l e R s m args below meth c H locs cells slots Q (F0 m pc ls (.int x :: .int i :: .ref (ad o) :: rest)) := by
  obtain ⟨q, hq⟩ := List.getElem?_of_mem ho
  have hs : (xws lay st KA ad ids σ).set q (ad o, .inl (KA 2, n, .inl (upd (gI σ o) i.toNatClampNeg (vp_nar .boolean x)))) = xws lay st KA ad ids (uI σ o i.toNatClampNeg x) := by
    refine xws_set hW.2.1 hq ?_ (fun a ha => ⟨?_, rfl, rfl⟩)
    · rw [xE_z hl, isB_nar hx]
      congr 4
      funext j
      simp [upd, gI_uI]
    · funext b
      simp [uI, ha]
  refine va_zast hexec hb hK.1 hW.1 hW.2.1 hW.2.2 q 2 (by rw [xws_get hq, xE_z hl]) rfl hin hdg (fun H1 locs1 h1 h2 h3 => ?_)
  rw [hs] at h1 h2
  exact kk _ H1 locs1 rfl ⟨h1, h2, h3⟩
/-- a reference is put into an array -/
theorem x_ast (hexec : p.tables.exec = Jvm.exec) (hb : c.code = cc) (hK : xK D KA s) (hW : xW D KA lay st ad ids A H0 σ H locs) (o j : Nat) {n ci d : Nat} (ho : o ∈ ids) (hl : lay o = (j + 4, n)) (hd : d ∈ ids) (hld : lay d = (0, ci)) (hcl : vwCl[ci]? = some (xC ci)) (hj : (xtys KA)[j + 3]? = some (KA (j + 3), .object (xC ci).1)) {i : Int32} (hin : vp_in i n) (hst : ∀ k, st o k = none) (hdg : decode cc pc = .ok (.aastore, 1))
    (kk : ∀ (τ : St) (H1 : Heap) (locs1 : List Loc), τ = uR σ o i.toNatClampNeg (some d) → xW D KA lay st ad ids A H0 τ H1 locs1 → W p l e R s m args below meth c H1 locs1 cells slots Q (F0 m (pc + 1) ls rest)) : W p l e R s m args below meth c H locs cells slots Q (F0 m pc ls (.ref (ad d) :: .int i :: .ref (ad o) :: rest)) := by
  obtain ⟨q, hq⟩ := List.getElem?_of_mem ho
  obtain ⟨qd, hqd⟩ := List.getElem?_of_mem hd
  have hs : (xws lay st KA ad ids σ).set q (ad o, .inl (KA (j + 3), n, .inr (.inr (.inr (.inr (va_up (fun k => (xR st σ o k).map ad) i.toNatClampNeg (some (ad d)))))))) = xws lay st KA ad ids (uR σ o i.toNatClampNeg (some d)) := by
    refine xws_set hW.2.1 hq ?_ (fun a ha => ⟨rfl, rfl, ?_⟩)
    · rw [xE_r hl]
      congr 7
      funext b
      unfold xR va_up
      simp only [hst b, gR_uR]
      by_cases hbi : b = i.toNatClampNeg
      · simp [hbi]
      · simp [hbi]
    · funext b
      simp [uR, ha]
  refine va_astq hexec hb hK.1 hW.1 hW.2.1 hW.2.2 q (j + 3) qd ci (r := xC ci) (by rw [xws_get hq, xE_r hl]) hj (by rw [xws_get hqd, xE_obj hld]) hcl hin hdg (fun H1 locs1 h1 h2 h3 => ?_)
  rw [hs] at h1 h2
  exact kk _ H1 locs1 rfl ⟨h1, h2, h3⟩
theorem x_astO (hexec : p.tables.exec = Jvm.exec) (hb : c.code = cc) (hK : xK D KA s) (hW : xW D KA lay st ad ids A H0 σ H locs) (o j : Nat) {n ci d : Nat} (ho : o ∈ ids) (hl : lay o = (j + 4, n)) (hd : d ∈ ids) (hld : lay d = (0, ci)) (hcl : vwCl[ci]? = some (xC ci)) {E : String} (hj : (xtys KA)[j + 3]? = some (KA (j + 3), .object E)) (hca : va_Nw (.castable (xC ci).1 E) s) {i : Int32} (hin : vp_in i n) (hst : ∀ k, st o k = none) (hdg : decode cc pc = .ok (.aastore, 1))
    (kk : ∀ (τ : St) (H1 : Heap) (locs1 : List Loc), τ = uR σ o i.toNatClampNeg (some d) → xW D KA lay st ad ids A H0 τ H1 locs1 → W p l e R s m args below meth c H1 locs1 cells slots Q (F0 m (pc + 1) ls rest)) : W p l e R s m args below meth c H locs cells slots Q (F0 m pc ls (.ref (ad d) :: .int i :: .ref (ad o) :: rest)) := by
  obtain ⟨q, hq⟩ := List.getElem?_of_mem ho
  obtain ⟨qd, hqd⟩ := List.getElem?_of_mem hd
  have hs : (xws lay st KA ad ids σ).set q (ad o, .inl (KA (j + 3), n, .inr (.inr (.inr (.inr (va_up (fun k => (xR st σ o k).map ad) i.toNatClampNeg (some (ad d)))))))) = xws lay st KA ad ids (uR σ o i.toNatClampNeg (some d)) := by
    refine xws_set hW.2.1 hq ?_ (fun a ha => ⟨rfl, rfl, ?_⟩)
    · rw [xE_r hl]
      congr 7
      funext b
      unfold xR va_up
      simp only [hst b, gR_uR]
      by_cases hbi : b = i.toNatClampNeg
      · simp [hbi]
      · simp [hbi]
    · funext b
      simp [uR, ha]
  refine va_astqO hexec hb hK.1 hW.1 hW.2.1 hW.2.2 q (j + 3) qd ci (r := xC ci) (by rw [xws_get hq, xE_r hl]) hj hca (by rw [xws_get hqd, xE_obj hld]) hcl hin hdg (fun H1 locs1 h1 h2 h3 => ?_)
  rw [hs] at h1 h2
  exact kk _ H1 locs1 rfl ⟨h1, h2, h3⟩
theorem x_puti (hexec : p.tables.exec = Jvm.exec) (hb : c.code = cc) {own ref : String} {index : Nat} {Ts : List Cond} (hts : ∀ w ∈ Ts, w.before args s = true) (hown : s.vm.findClass own = some m.cls) (hK : xK D KA s) (hW : xW D KA lay st ad ids A H0 σ H locs) (o ci k : Nat) (hin : ∀ w ∈ u_ws (xC ci).1 (xC ci).2.1 (xC ci).2.2, w ∈ Ts) (hty : ∀ k, k < (xC ci).2.2 → parseFieldDescriptor ((xC ci).2.1 k).2.2.1 = some (xTy ci k)) (hnm : ∀ a, a < (xC ci).2.2 → ∀ b, b < (xC ci).2.2 → a ≠ b → ((xC ci).2.1 a).2.1 ≠ ((xC ci).2.1 b).2.1) (ho : o ∈ ids) (hl : lay o = (0, ci)) (hcl : vwCl[ci]? = some (xC ci)) (hk : k < (xC ci).2.2) (hlink : (Cond.fieldLink own index ref ((xC ci).2.1 k).2.1 ((xC ci).2.1 k).2.2.1).before args s = true) (hsame : ∀ x, s.fieldFound? ((xC ci).2.1 k).1 ((xC ci).2.1 k).2.1 ((xC ci).2.1 k).2.2.1 = some x → s.fieldFound? ref ((xC ci).2.1 k).2.1 ((xC ci).2.1 k).2.2.1 = some x) (hfin : ((xC ci).2.1 k).2.2.2 = false) {v : Int32} (hx : xc (xTy ci k) = 0) (hn : narrow (xTy ci k) (.int v) = .int v) (hfit : fits (xTy ci k) (.int v) = true) (hdg : decode cc pc = .ok (.putfield index, 3))
    (kk : ∀ (τ : St) (H1 : Heap) (locs1 : List Loc), τ = uI σ o k v → xW D KA lay st ad ids A H0 τ H1 locs1 → W p l e R s m args below meth c H1 locs1 cells slots Q (F0 m (pc + 3) ls rest)) : W p l e R s m args below meth c H locs cells slots Q (F0 m pc ls (.int v :: .ref (ad o) :: rest)) := by
  obtain ⟨q, hq⟩ := List.getElem?_of_mem ho
  have hs : (xws lay st KA ad ids σ).set q (ad o, .inr (ci, (xF st ad σ o ci).set k (.int v))) = xws lay st KA ad ids (uI σ o k v) := by
    refine xws_set hW.2.1 hq ?_ (fun a ha => ⟨?_, rfl, rfl⟩)
    · rw [xE_obj hl, xF_set (τ := uI σ o k v) hk (by rw [hx]; simp [xV, gI_uI]) (fun j _ hj t => by unfold xV xR; simp only [gI_uI, gJ_uI, gR_uI]; simp [hj])]
    · funext b
      simp [uI, ha]
  refine va_put hexec hb hts hin (xTy ci) hty hnm hown hK.1 hW.1 hW.2.1 hW.2.2 q (by rw [xws_get hq, xE_obj hl]) hcl k hk hlink hsame hfin (hty k hk) hn hfit (by rw [xF_len]; exact hk) hdg (fun H1 locs1 h1 h2 h3 => ?_)
  rw [hs] at h1 h2
  exact kk _ H1 locs1 rfl ⟨h1, h2, h3⟩
theorem x_putj (hexec : p.tables.exec = Jvm.exec) (hb : c.code = cc) {own ref : String} {index : Nat} {Ts : List Cond} (hts : ∀ w ∈ Ts, w.before args s = true) (hown : s.vm.findClass own = some m.cls) (hK : xK D KA s) (hW : xW D KA lay st ad ids A H0 σ H locs) (o ci k : Nat) (hin : ∀ w ∈ u_ws (xC ci).1 (xC ci).2.1 (xC ci).2.2, w ∈ Ts) (hty : ∀ k, k < (xC ci).2.2 → parseFieldDescriptor ((xC ci).2.1 k).2.2.1 = some (xTy ci k)) (hnm : ∀ a, a < (xC ci).2.2 → ∀ b, b < (xC ci).2.2 → a ≠ b → ((xC ci).2.1 a).2.1 ≠ ((xC ci).2.1 b).2.1) (ho : o ∈ ids) (hl : lay o = (0, ci)) (hcl : vwCl[ci]? = some (xC ci)) (hk : k < (xC ci).2.2) (hlink : (Cond.fieldLink own index ref ((xC ci).2.1 k).2.1 ((xC ci).2.1 k).2.2.1).before args s = true) (hsame : ∀ x, s.fieldFound? ((xC ci).2.1 k).1 ((xC ci).2.1 k).2.1 ((xC ci).2.1 k).2.2.1 = some x → s.fieldFound? ref ((xC ci).2.1 k).2.1 ((xC ci).2.1 k).2.2.1 = some x) (hfin : ((xC ci).2.1 k).2.2.2 = false) {v : Int64} (hx : xTy ci k = .long) (hdg : decode cc pc = .ok (.putfield index, 3))
    (kk : ∀ (τ : St) (H1 : Heap) (locs1 : List Loc), τ = uJ σ o k v → xW D KA lay st ad ids A H0 τ H1 locs1 → W p l e R s m args below meth c H1 locs1 cells slots Q (F0 m (pc + 3) ls rest)) : W p l e R s m args below meth c H locs cells slots Q (F0 m pc ls (.long v :: .ref (ad o) :: rest)) := by
  obtain ⟨q, hq⟩ := List.getElem?_of_mem ho
  have hs : (xws lay st KA ad ids σ).set q (ad o, .inr (ci, (xF st ad σ o ci).set k (.long v))) = xws lay st KA ad ids (uJ σ o k v) := by
    refine xws_set hW.2.1 hq ?_ (fun a ha => ⟨rfl, ?_, rfl⟩)
    · rw [xE_obj hl, xF_set (τ := uJ σ o k v) hk (by rw [hx]; simp [xV, xc, gJ_uJ]) (fun j _ hj t => by unfold xV xR; simp only [gI_uJ, gJ_uJ, gR_uJ]; simp [hj])]
    · funext b
      simp [uJ, ha]
  refine va_put hexec hb hts hin (xTy ci) hty hnm hown hK.1 hW.1 hW.2.1 hW.2.2 q (by rw [xws_get hq, xE_obj hl]) hcl k hk hlink hsame hfin (hty k hk) (by rw [hx]; rfl) (by rw [hx]; rfl) (by rw [xF_len]; exact hk) hdg (fun H1 locs1 h1 h2 h3 => ?_)
  rw [hs] at h1 h2
  exact kk _ H1 locs1 rfl ⟨h1, h2, h3⟩
theorem x_putr (hexec : p.tables.exec = Jvm.exec) (hb : c.code = cc) {own ref : String} {index : Nat} {Ts : List Cond} (hts : ∀ w ∈ Ts, w.before args s = true) (hown : s.vm.findClass own = some m.cls) (hK : xK D KA s) (hW : xW D KA lay st ad ids A H0 σ H locs) (o ci k : Nat) (hin : ∀ w ∈ u_ws (xC ci).1 (xC ci).2.1 (xC ci).2.2, w ∈ Ts) (hty : ∀ k, k < (xC ci).2.2 → parseFieldDescriptor ((xC ci).2.1 k).2.2.1 = some (xTy ci k)) (hnm : ∀ a, a < (xC ci).2.2 → ∀ b, b < (xC ci).2.2 → a ≠ b → ((xC ci).2.1 a).2.1 ≠ ((xC ci).2.1 b).2.1) (ho : o ∈ ids) (hl : lay o = (0, ci)) (hcl : vwCl[ci]? = some (xC ci)) (hk : k < (xC ci).2.2) (hlink : (Cond.fieldLink own index ref ((xC ci).2.1 k).2.1 ((xC ci).2.1 k).2.2.1).before args s = true) (hsame : ∀ x, s.fieldFound? ((xC ci).2.1 k).1 ((xC ci).2.1 k).2.1 ((xC ci).2.1 k).2.2.1 = some x → s.fieldFound? ref ((xC ci).2.1 k).2.1 ((xC ci).2.1 k).2.2.1 = some x) (hfin : ((xC ci).2.1 k).2.2.2 = false) {d : Nat} (hx : xc (xTy ci k) = 2) (hst : st o k = none) (hn : narrow (xTy ci k) (.ref (ad d)) = .ref (ad d)) (hfit : fits (xTy ci k) (.ref (ad d)) = true) (hdg : decode cc pc = .ok (.putfield index, 3))
    (kk : ∀ (τ : St) (H1 : Heap) (locs1 : List Loc), τ = uR σ o k (some d) → xW D KA lay st ad ids A H0 τ H1 locs1 → W p l e R s m args below meth c H1 locs1 cells slots Q (F0 m (pc + 3) ls rest)) : W p l e R s m args below meth c H locs cells slots Q (F0 m pc ls (.ref (ad d) :: .ref (ad o) :: rest)) := by
  obtain ⟨q, hq⟩ := List.getElem?_of_mem ho
  have hs : (xws lay st KA ad ids σ).set q (ad o, .inr (ci, (xF st ad σ o ci).set k (.ref (ad d)))) = xws lay st KA ad ids (uR σ o k (some d)) := by
    refine xws_set hW.2.1 hq ?_ (fun a ha => ⟨rfl, rfl, ?_⟩)
    · rw [xE_obj hl, xF_set (τ := uR σ o k (some d)) hk (by rw [hx]; simp [xV, xR, hst, gR_uR, va_rf]) (fun j _ hj t => by unfold xV xR; simp only [gI_uR, gJ_uR, gR_uR]; simp [hj])]
    · funext b
      simp [uR, ha]
  refine va_put hexec hb hts hin (xTy ci) hty hnm hown hK.1 hW.1 hW.2.1 hW.2.2 q (by rw [xws_get hq, xE_obj hl]) hcl k hk hlink hsame hfin (hty k hk) hn hfit (by rw [xF_len]; exact hk) hdg (fun H1 locs1 h1 h2 h3 => ?_)
  rw [hs] at h1 h2
  exact kk _ H1 locs1 rfl ⟨h1, h2, h3⟩
-- calls
theorem x_recv {s : State} (hK : xK D KA s) (hW : xW D KA lay st ad ids A H0 σ H locs) {o ci : Nat} (ho : o ∈ ids) (hl : lay o = (0, ci)) (hcl : vwCl[ci]? = some (xC ci)) : ∃ cell : Cell, H[ad o]? = some cell ∧ cell.vm.isStatics = false ∧ s.vm.findClass (xC ci).1 = some cell.cls := by
  obtain ⟨q, hq⟩ := List.getElem?_of_mem ho
  exact va_recv hK.1 hW.1 hcl (q0 := q) (fs := xF st ad σ o ci) (by rw [xws_get hq, xE_obj hl])
variable {zs : ZS}
theorem x_blind {as : List Value} {sz : Nat} : FrameBlind (va_Pc as (xIn D KA zs lay st ad ids sz σ)) := by
  intro a U g mk q
  obtain ⟨q0, q1, qK, qZ, qP, qD⟩ := q
  exact ⟨q0, q1, xK_vm (u := U) (U := U.calling g mk a) rfl qK, xZ_vm (u := U) (U := U.calling g mk a) rfl rfl qZ, qP, qD⟩
theorem xA_mono {sz sz' : Nat} (h : sz ≤ sz') : ∀ q, xA ad ids sz' q → xA ad ids sz q := fun _ hq => hq.elim Or.inl (fun z => Or.inr (Nat.le_trans h z))
theorem x_pre {s : State} (hK : xK D KA s) (hZ : xZ zs A s) (hA : ∀ q, s.heap.size ≤ q → A q) (hW : xW D KA lay st ad ids A s.heap σ H locs) {as : List Value} : ∀ U : State, U.heap = H → s.WarmedH U.vm → va_Pc as (xIn D KA zs lay st ad ids H.size σ) as.toArray U :=
  fun U hU hw => ⟨rfl, by rw [hU], xK_moved hw hK, xZ_moved hU hw hW.2.2.2.1 (xA_le hW hA) hZ, by rw [hU]; exact hW.1, hW.2.1.weaken (fun _ _ _ _ => trivial)⟩
theorem x_preV {s : State} (hK : xK D KA s) (hZ : xZ zs A s) (hA : ∀ q, s.heap.size ≤ q → A q) (hW : xW D KA lay st ad ids A s.heap σ H locs) {o ci : Nat} (ho : o ∈ ids) (hl : lay o = (0, ci)) (hcl : vwCl[ci]? = some (xC ci)) {as : List Value} : PreV s H (xC ci).1 (ad o) (va_Pc (.ref (ad o) :: as) (xIn D KA zs lay st ad ids H.size σ)) as :=
  ⟨x_blind, x_recv hK hW ho hl hcl, x_pre hK hZ hA hW⟩
theorem x_preS {s : State} (hK : xK D KA s) (hZ : xZ zs A s) (hA : ∀ q, s.heap.size ≤ q → A q) (hW : xW D KA lay st ad ids A s.heap σ H locs) {as : List Value} : PreS s H (va_Pc as (xIn D KA zs lay st ad ids H.size σ)) as :=
  ⟨x_blind, x_pre hK hZ hA hW⟩
variable {st0 : List Value} {a : Array Value}
theorem x_calli {post : Int32 → St → Prop} (hr : va_Run p l e R s m args below meth c H locs cells slots 0 0 (F0 m pc ls st0) rest (va_Qi post (xOut D KA lay st ad ids) (xA ad ids H.size) a) (xA ad ids H.size)) (hW : xW D KA lay st ad ids A H0 σ H locs) (hA : ∀ q, H0.size ≤ q → A q)
    (kk : ∀ (r : Int32) (τ : St) (H1 : Heap) (locs1 : List Loc), post r τ → xW D KA lay st ad ids A H0 τ H1 locs1 → W p l e R s m args below meth c H1 locs1 cells slots Q (F0 m (pc + 3) ls (.int r :: rest))) : W p l e R s m args below meth c H locs cells slots Q (F0 m pc ls st0) :=
  va_calli hr hW.2.2 (fun q _ h => xA_le hW hA q h) (xA_le hW hA) (fun r u t H1 locs1 ht _ hp hB _ _ hS => kk r u H1 locs1 hp ⟨by rw [← ht]; exact hB.1, xD_le hW.2.1 hB.2, hS⟩)
theorem x_calll {post : Int64 → St → Prop} (hr : va_Run p l e R s m args below meth c H locs cells slots 0 0 (F0 m pc ls st0) rest (va_Ql post (xOut D KA lay st ad ids) (xA ad ids H.size) a) (xA ad ids H.size)) (hW : xW D KA lay st ad ids A H0 σ H locs) (hA : ∀ q, H0.size ≤ q → A q)
    (kk : ∀ (r : Int64) (τ : St) (H1 : Heap) (locs1 : List Loc), post r τ → xW D KA lay st ad ids A H0 τ H1 locs1 → W p l e R s m args below meth c H1 locs1 cells slots Q (F0 m (pc + 3) ls (.long r :: rest))) : W p l e R s m args below meth c H locs cells slots Q (F0 m pc ls st0) :=
  va_calll hr hW.2.2 (fun q _ h => xA_le hW hA q h) (xA_le hW hA) (fun r u t H1 locs1 ht _ hp hB _ _ hS => kk r u H1 locs1 hp ⟨by rw [← ht]; exact hB.1, xD_le hW.2.1 hB.2, hS⟩)
theorem x_callv {post : St → Prop} (hr : va_Run p l e R s m args below meth c H locs cells slots 0 0 (F0 m pc ls st0) rest (va_Qv post (xOut D KA lay st ad ids) (xA ad ids H.size) a) (xA ad ids H.size)) (hW : xW D KA lay st ad ids A H0 σ H locs) (hA : ∀ q, H0.size ≤ q → A q)
    (kk : ∀ (τ : St) (H1 : Heap) (locs1 : List Loc), post τ → xW D KA lay st ad ids A H0 τ H1 locs1 → W p l e R s m args below meth c H1 locs1 cells slots Q (F0 m (pc + 3) ls rest)) : W p l e R s m args below meth c H locs cells slots Q (F0 m pc ls st0) :=
  va_callv hr hW.2.2 (fun q _ h => xA_le hW hA q h) (xA_le hW hA) (fun u t H1 locs1 ht _ hp hB _ _ hS => kk u H1 locs1 hp ⟨by rw [← ht]; exact hB.1, xD_le hW.2.1 hB.2, hS⟩)
-- ends
theorem x_iret {post : Int32 → St → Prop} (hexec : p.tables.exec = Jvm.exec) (hb : c.code = cc) (hr : meth.sig.returnType = some .int) (hlocks : meth.locks = false) (hW : xW D KA lay st ad ids (xA ad ids s.heap.size) s.heap σ H locs) {v : Int32} (hp : post v σ) (hdg : decode cc pc = .ok (.ireturn, 1)) : W p l e R s m args below meth c H locs 0 0 (MQ below (va_Qi post (xOut D KA lay st ad ids) (xA ad ids s.heap.size)) args s 0 0 (xA ad ids s.heap.size)) (F0 m pc ls [.int v]) :=
  W.iret hexec hb hr (fun t ht _ => ⟨⟨v, σ, rfl, hp, by rw [ht]; exact hW.1, hW.2.1.weaken (fun _ _ _ _ => trivial)⟩, hW.2.2.F ht⟩) hW.2.2.2.2 hdg
theorem x_zret {post : Int32 → St → Prop} (hexec : p.tables.exec = Jvm.exec) (hb : c.code = cc) (hr : meth.sig.returnType = some .boolean) (hlocks : meth.locks = false) (hW : xW D KA lay st ad ids (xA ad ids s.heap.size) s.heap σ H locs) {v : Int32} (hv : isB v) (hp : post v σ) (hdg : decode cc pc = .ok (.ireturn, 1)) : W p l e R s m args below meth c H locs 0 0 (MQ below (va_Qi post (xOut D KA lay st ad ids) (xA ad ids s.heap.size)) args s 0 0 (xA ad ids s.heap.size)) (F0 m pc ls [.int v]) :=
  W.zret hexec hb hr (isB_narrow hv) (fun t ht _ => ⟨⟨v, σ, rfl, hp, by rw [ht]; exact hW.1, hW.2.1.weaken (fun _ _ _ _ => trivial)⟩, hW.2.2.F ht⟩) hW.2.2.2.2 hdg
theorem x_lret {post : Int64 → St → Prop} (hexec : p.tables.exec = Jvm.exec) (hb : c.code = cc) (hr : meth.sig.returnType = some .long) (hlocks : meth.locks = false) (hW : xW D KA lay st ad ids (xA ad ids s.heap.size) s.heap σ H locs) {v : Int64} (hp : post v σ) (hdg : decode cc pc = .ok (.lreturn, 1)) : W p l e R s m args below meth c H locs 0 0 (MQ below (va_Ql post (xOut D KA lay st ad ids) (xA ad ids s.heap.size)) args s 0 0 (xA ad ids s.heap.size)) (F0 m pc ls [.long v]) :=
  W.lret hexec hb hr (fun t ht _ => ⟨⟨v, σ, rfl, hp, by rw [ht]; exact hW.1, hW.2.1.weaken (fun _ _ _ _ => trivial)⟩, hW.2.2.F ht⟩) hW.2.2.2.2 hdg
theorem x_vret {post : St → Prop} (hexec : p.tables.exec = Jvm.exec) (hb : c.code = cc) (hr : meth.sig.returnType = none) (hlocks : meth.locks = false) (hW : xW D KA lay st ad ids (xA ad ids s.heap.size) s.heap σ H locs) (hp : post σ) (hdg : decode cc pc = .ok (.return_, 1)) : W p l e R s m args below meth c H locs 0 0 (MQ below (va_Qv post (xOut D KA lay st ad ids) (xA ad ids s.heap.size)) args s 0 0 (xA ad ids s.heap.size)) (F0 m pc ls []) :=
  W.vret hexec hb hr (fun t ht _ => ⟨⟨σ, rfl, hp, by rw [ht]; exact hW.1, hW.2.1.weaken (fun _ _ _ _ => trivial)⟩, hW.2.2.F ht⟩) hW.2.2.2.2 hdg
end XR
