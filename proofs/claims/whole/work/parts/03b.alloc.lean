/-! NEW CELLS -/
def xdv (t : Nat) : Value := match t with
  | 0 => .int 0
  | 1 => .long 0
  | _ => .null
/-- the addresses, with one more -/
def xad (ad : Nat → Nat) (d q : Nat) : Nat → Nat := fun c => if c = d then q else ad c
theorem xad_ne {ad : Nat → Nat} {d q c : Nat} (h : c ≠ d) : xad ad d q c = ad c := if_neg h
theorem xad_self {ad : Nat → Nat} {d q : Nat} : xad ad d q d = q := if_pos rfl
theorem xE_ad {lay : Nat → Nat × Nat} {st : Nat → Nat → Option Nat} {KA : Nat → ClassId} {ad : Nat → Nat} {σ : St} {c d q : Nat} (h : ∀ k, xR st σ c k ≠ some d) : xE lay st KA (xad ad d q) σ c = xE lay st KA ad σ c := by
  have e : ∀ k, (xR st σ c k).map (xad ad d q) = (xR st σ c k).map ad := by
    intro k
    cases hk : xR st σ c k with
    | none => rfl
    | some a =>
      have : a ≠ d := fun z => h k (by rw [hk, z])
      simp [xad_ne this]
  have f : ∀ k t, xV st (xad ad d q) σ c k t = xV st ad σ c k t := fun k t => by
    unfold xV; rw [e]
  unfold xE xF
  simp only [e, f]
theorem xws_push {lay : Nat → Nat × Nat} {st : Nat → Nat → Option Nat} {KA : Nat → ClassId} {ad : Nat → Nat} {ids : List Nat} {σ : St} {d q : Nat} (hd : d ∉ ids) (href : ∀ c ∈ ids, ∀ k, xR st σ c k ≠ some d) : xws lay st KA ad ids σ ++ [(q, xE lay st KA (xad ad d q) (nC σ d) d)] = xws lay st KA (xad ad d q) (ids ++ [d]) (nC σ d) := by
  unfold xws
  rw [List.map_append]
  congr 1
  · apply List.map_congr_left
    intro c hc
    have hne : c ≠ d := fun z => hd (z ▸ hc)
    have hr : ∀ k, xR st (nC σ d) c k = xR st σ c k := fun k => by unfold xR; rw [gR_nC, if_neg hne]
    rw [xad_ne hne, xE_ad (fun k => by rw [hr]; exact href c hc k)]
    rw [xE_sim (σ := σ) (τ := nC σ d) (by simp [nC, hne]) (by simp [nC, hne]) (by simp [nC, hne])]
  · simp [xad_self]
section XN
variable {p : Program} {l : Launch} {e : Env} {R : Room} {s : State} {m : MethodId} {args : Array Value} {below : List Frame} {meth : Method} {c : Code} {H : Heap} {locs : List Loc} {cells slots : Nat} {Q : State → Prop}
variable {cc : ByteArray} {pc : Nat} {ls : Array Slot} {rest : List Value} {D : va_G} {KA : Nat → ClassId} {lay : Nat → Nat × Nat} {st : Nat → Nat → Option Nat} {ad : Nat → Nat} {ids : List Nat} {A : Nat → Prop} {H0 : Heap} {σ : St}
theorem x_new (hexec : p.tables.exec = Jvm.exec) (hb : c.code = cc) {own : String} {index : Nat} {Ts : List Cond} (hts : ∀ w ∈ Ts, w.before args s = true) (hown : s.vm.findClass own = some m.cls) (hK : xK D KA s) (hW : xW D KA lay st ad ids A H0 σ H locs) (hA : ∀ q, H0.size ≤ q → A q) (d ci N : Nat) (hN : (xC ci).2.2 = N) (hin : ∀ w ∈ u_ws (xC ci).1 (xC ci).2.1 (xC ci).2.2, w ∈ Ts) (hty : ∀ k, k < (xC ci).2.2 → parseFieldDescriptor ((xC ci).2.1 k).2.2.1 = some (xTy ci k)) (hdv : ∀ k, k < (xC ci).2.2 → defaultValue (xTy ci k) = xdv (xc (xTy ci k))) (hcl : vwCl[ci]? = some (xC ci)) (hlink : (Cond.classLink own index (xC ci).1).before args s = true) (hinst : (Cond.instantiable (xC ci).1 (xC ci).2.2).before args s = true) (hini : (Cond.initialized (xC ci).1).before args s = true) (hd : d ∉ ids) (hl : lay d = (0, ci)) (hst : ∀ k, st d k = none) (href : ∀ c ∈ ids, ∀ k, xR st σ c k ≠ some d) (hcells : cells + 1 ≤ R.cells) (hslots : slots + N ≤ R.slots) (hdg : decode cc pc = .ok (.new index, 3))
    (kk : ∀ (ad' : Nat → Nat) (H1 : Heap), (∀ c, c ≠ d → ad' c = ad c) → xW D KA lay st ad' (ids ++ [d]) A H0 (nC σ d) H1 locs → W p l e R s m args below meth c H1 locs (cells + 1) (slots + N) Q (F0 m (pc + 3) ls (.ref (ad' d) :: rest))) : W p l e R s m args below meth c H locs cells slots Q (F0 m pc ls rest) := by
  subst hN
  refine va_new (fs := (List.range (xC ci).2.2).map (fun k => xdv (xc (xTy ci k)))) hexec hb hts hin (xTy ci) hty hown hlink hinst hini hK.1 hW.1 hW.2.1 hW.2.2 hA hcl (fun j hj => ?_) hcells hslots hdg (fun q H1 h1 h2 h3 => ?_)
  · rw [hdv j hj]
    simp [vp_V, hj]
  · have he : xE lay st KA (xad ad d q) (nC σ d) d = .inr (ci, (List.range (xC ci).2.2).map (fun k => xdv (xc (xTy ci k)))) := by
      rw [xE_obj hl]
      unfold xF
      congr 2
      apply List.map_congr_left
      intro k _
      unfold xV xdv xR
      rw [hst k, gR_nC, gI_nC, gJ_nC]
      simp only [if_true]
      generalize xc (xTy ci k) = t
      cases t with
      | zero => rfl
      | succ t => cases t <;> rfl
    rw [← he, xws_push hd href] at h1 h2
    have := kk (xad ad d q) H1 (fun c hc => xad_ne hc) ⟨h1, h2, h3⟩
    rw [xad_self] at this
    exact this
/-- an array of ints, longs or truth values -/
theorem x_newi (hexec : p.tables.exec = Jvm.exec) (hb : c.code = cc) {Ts : List Cond} (hts : ∀ w ∈ Ts, w.before args s = true) (harr : Cond.arrayClass .int ∈ Ts) (hK : xK D KA s) (hW : xW D KA lay st ad ids A H0 σ H locs) (hA : ∀ q, H0.size ≤ q → A q) (d N : Nat) (hd : d ∉ ids) (hl : lay d = (1, N)) (href : ∀ c ∈ ids, ∀ k, xR st σ c k ≠ some d) {n : Int32} (hn : ¬ n < 0) (hnN : n.toNatClampNeg = N) (hbytes : N * componentBytes .int ≤ 536870912) (hcells : cells + 1 ≤ R.cells) (hslots : slots + N ≤ R.slots) (hdg : decode cc pc = .ok (.newarray .int, 2))
    (kk : ∀ (ad' : Nat → Nat) (H1 : Heap), (∀ c, c ≠ d → ad' c = ad c) → xW D KA lay st ad' (ids ++ [d]) A H0 (nC σ d) H1 locs → W p l e R s m args below meth c H1 locs (cells + 1) (slots + N) Q (F0 m (pc + 2) ls (.ref (ad' d) :: rest))) : W p l e R s m args below meth c H locs cells slots Q (F0 m pc ls (.int n :: rest)) := by
  refine va_newa (atype := .int) (ty := .int) (a0 := (N, .inl (fun _ => 0))) hexec hb (hts _ harr) rfl hK.1 hW.1 hW.2.1 hW.2.2 hA (fun cA => by rw [vp_cell_i]; rfl) hn hnN hbytes hcells hslots hdg (fun q cA H1 h0 h1 h2 h3 => ?_)
  have hc : cA = KA 0 := by
    have e1 := (h0.2 7 (cA, .int) rfl).2
    have e2 := (hK.1.2 0 (KA 0, .int) rfl).2
    exact Option.some.inj (e1.symm.trans e2)
  subst hc
  have he : xE lay st KA (xad ad d q) (nC σ d) d = .inl (KA 0, N, .inl (fun _ => 0)) := by
    rw [xE_i hl]
    congr 4
    funext j
    rw [gI_nC, if_pos rfl]
  rw [← he, xws_push hd href] at h1 h2
  have := kk (xad ad d q) H1 (fun c hc => xad_ne hc) ⟨h1, h2, h3⟩
  rw [xad_self] at this
  exact this
theorem x_newj (hexec : p.tables.exec = Jvm.exec) (hb : c.code = cc) {Ts : List Cond} (hts : ∀ w ∈ Ts, w.before args s = true) (harr : Cond.arrayClass .long ∈ Ts) (hK : xK D KA s) (hW : xW D KA lay st ad ids A H0 σ H locs) (hA : ∀ q, H0.size ≤ q → A q) (d N : Nat) (hd : d ∉ ids) (hl : lay d = (2, N)) (href : ∀ c ∈ ids, ∀ k, xR st σ c k ≠ some d) {n : Int32} (hn : ¬ n < 0) (hnN : n.toNatClampNeg = N) (hbytes : N * componentBytes .long ≤ 536870912) (hcells : cells + 1 ≤ R.cells) (hslots : slots + N ≤ R.slots) (hdg : decode cc pc = .ok (.newarray .long, 2))
    (kk : ∀ (ad' : Nat → Nat) (H1 : Heap), (∀ c, c ≠ d → ad' c = ad c) → xW D KA lay st ad' (ids ++ [d]) A H0 (nC σ d) H1 locs → W p l e R s m args below meth c H1 locs (cells + 1) (slots + N) Q (F0 m (pc + 2) ls (.ref (ad' d) :: rest))) : W p l e R s m args below meth c H locs cells slots Q (F0 m pc ls (.int n :: rest)) := by
  refine va_newa (atype := .long) (ty := .long) (a0 := (N, .inr (.inl (fun _ => 0)))) hexec hb (hts _ harr) rfl hK.1 hW.1 hW.2.1 hW.2.2 hA (fun cA => by rw [vp_cell_l]; rfl) hn hnN hbytes hcells hslots hdg (fun q cA H1 h0 h1 h2 h3 => ?_)
  have hc : cA = KA 1 := by
    have e1 := (h0.2 7 (cA, .long) rfl).2
    have e2 := (hK.1.2 1 (KA 1, .long) rfl).2
    exact Option.some.inj (e1.symm.trans e2)
  subst hc
  have he : xE lay st KA (xad ad d q) (nC σ d) d = .inl (KA 1, N, .inr (.inl (fun _ => 0))) := by
    rw [xE_j hl]
    congr 5
    funext j
    rw [gJ_nC, if_pos rfl]
  rw [← he, xws_push hd href] at h1 h2
  have := kk (xad ad d q) H1 (fun c hc => xad_ne hc) ⟨h1, h2, h3⟩
  rw [xad_self] at this
  exact this
theorem x_newz (hexec : p.tables.exec = Jvm.exec) (hb : c.code = cc) {Ts : List Cond} (hts : ∀ w ∈ Ts, w.before args s = true) (harr : Cond.arrayClass .boolean ∈ Ts) (hK : xK D KA s) (hW : xW D KA lay st ad ids A H0 σ H locs) (hA : ∀ q, H0.size ≤ q → A q) (d N : Nat) (hd : d ∉ ids) (hl : lay d = (3, N)) (href : ∀ c ∈ ids, ∀ k, xR st σ c k ≠ some d) {n : Int32} (hn : ¬ n < 0) (hnN : n.toNatClampNeg = N) (hbytes : N * componentBytes .boolean ≤ 536870912) (hcells : cells + 1 ≤ R.cells) (hslots : slots + N ≤ R.slots) (hdg : decode cc pc = .ok (.newarray .boolean, 2))
    (kk : ∀ (ad' : Nat → Nat) (H1 : Heap), (∀ c, c ≠ d → ad' c = ad c) → xW D KA lay st ad' (ids ++ [d]) A H0 (nC σ d) H1 locs → W p l e R s m args below meth c H1 locs (cells + 1) (slots + N) Q (F0 m (pc + 2) ls (.ref (ad' d) :: rest))) : W p l e R s m args below meth c H locs cells slots Q (F0 m pc ls (.int n :: rest)) := by
  refine va_newa (atype := .boolean) (ty := .boolean) (a0 := (N, .inl (fun _ => 0))) hexec hb (hts _ harr) rfl hK.1 hW.1 hW.2.1 hW.2.2 hA (fun cA => by rw [vp_cell_i]; rfl) hn hnN hbytes hcells hslots hdg (fun q cA H1 h0 h1 h2 h3 => ?_)
  have hc : cA = KA 2 := by
    have e1 := (h0.2 7 (cA, .boolean) rfl).2
    have e2 := (hK.1.2 2 (KA 2, .boolean) rfl).2
    exact Option.some.inj (e1.symm.trans e2)
  subst hc
  have he : xE lay st KA (xad ad d q) (nC σ d) d = .inl (KA 2, N, .inl (fun _ => 0)) := by
    rw [xE_z hl]
    congr 4
    funext j
    rw [gI_nC, if_pos rfl]
  rw [← he, xws_push hd href] at h1 h2
  have := kk (xad ad d q) H1 (fun c hc => xad_ne hc) ⟨h1, h2, h3⟩
  rw [xad_self] at this
  exact this
/-- an array of references of the sort j -/
theorem x_newr (hexec : p.tables.exec = Jvm.exec) (hb : c.code = cc) {own C : String} {index : Nat} {Ts : List Cond} (hts : ∀ w ∈ Ts, w.before args s = true) (hown : s.vm.findClass own = some m.cls) (hclink : Cond.classLink own index C ∈ Ts) (hover : va_AO C s) (hK : xK D KA s) (hW : xW D KA lay st ad ids A H0 σ H locs) (hA : ∀ q, H0.size ≤ q → A q) (d j N : Nat) (hj : (xtys KA)[j + 3]? = some (KA (j + 3), .object C)) (hd : d ∉ ids) (hl : lay d = (j + 4, N)) (hst : ∀ k, st d k = none) (href : ∀ c ∈ ids, ∀ k, xR st σ c k ≠ some d) {n : Int32} (hn : ¬ n < 0) (hnN : n.toNatClampNeg = N) (hbytes : N * 4 ≤ 536870912) (hcells : cells + 1 ≤ R.cells) (hslots : slots + N ≤ R.slots) (hdg : decode cc pc = .ok (.anewarray index, 3))
    (kk : ∀ (ad' : Nat → Nat) (H1 : Heap), (∀ c, c ≠ d → ad' c = ad c) → xW D KA lay st ad' (ids ++ [d]) A H0 (nC σ d) H1 locs → W p l e R s m args below meth c H1 locs (cells + 1) (slots + N) Q (F0 m (pc + 3) ls (.ref (ad' d) :: rest))) : W p l e R s m args below meth c H locs cells slots Q (F0 m pc ls (.int n :: rest)) := by
  refine va_newq hexec hb hown (hts _ hclink) hover hK.1 hW.1 hW.2.1 hW.2.2 hA hn hnN hbytes hcells hslots hdg (fun q cA H1 h0 h1 h2 h3 => ?_)
  have hc : cA = KA (j + 3) := by
    have e1 := (h0.2 7 (cA, .object C) rfl).2
    have e2 := (hK.1.2 (j + 3) (KA (j + 3), .object C) hj).2
    obtain ⟨_, _, _, _, _, e1⟩ := e1
    obtain ⟨_, _, _, _, _, e2⟩ := e2
    exact Option.some.inj (e1.symm.trans e2)
  subst hc
  have he : xE lay st KA (xad ad d q) (nC σ d) d = .inl (KA (j + 3), N, .inr (.inr (.inr (.inr (fun _ => none))))) := by
    rw [xE_r hl]
    congr 7
    funext b
    unfold xR
    rw [hst b, gR_nC, if_pos rfl]
    rfl
  rw [← he, xws_push hd href] at h1 h2
  have := kk (xad ad d q) H1 (fun c hc => xad_ne hc) ⟨h1, h2, h3⟩
  rw [xad_self] at this
  exact this
theorem x_putiF (hexec : p.tables.exec = Jvm.exec) (hb : c.code = cc) {own ref : String} {index : Nat} {Ts : List Cond} (hts : ∀ w ∈ Ts, w.before args s = true) (hown : s.vm.findClass own = some m.cls) (hK : xK D KA s) (hW : xW D KA lay st ad ids A H0 σ H locs) (o ci k : Nat) (hin : ∀ w ∈ u_ws (xC ci).1 (xC ci).2.1 (xC ci).2.2, w ∈ Ts) (hty : ∀ k, k < (xC ci).2.2 → parseFieldDescriptor ((xC ci).2.1 k).2.2.1 = some (xTy ci k)) (hnm : ∀ a, a < (xC ci).2.2 → ∀ b, b < (xC ci).2.2 → a ≠ b → ((xC ci).2.1 a).2.1 ≠ ((xC ci).2.1 b).2.1) (ho : o ∈ ids) (hl : lay o = (0, ci)) (hcl : vwCl[ci]? = some (xC ci)) (hk : k < (xC ci).2.2) (hlink : (Cond.fieldLink own index ref ((xC ci).2.1 k).2.1 ((xC ci).2.1 k).2.2.1).before args s = true) (hsame : ∀ x, s.fieldFound? ((xC ci).2.1 k).1 ((xC ci).2.1 k).2.1 ((xC ci).2.1 k).2.2.1 = some x → s.fieldFound? ref ((xC ci).2.1 k).2.1 ((xC ci).2.1 k).2.2.1 = some x) (hfin : ((xC ci).2.1 k).2.2.2 = true) (hin2 : meth.name = "<init>") (hdecl : ((xC ci).2.1 k).1 = own) {v : Int32} (hx : xc (xTy ci k) = 0) (hn : narrow (xTy ci k) (.int v) = .int v) (hfit : fits (xTy ci k) (.int v) = true) (hdg : decode cc pc = .ok (.putfield index, 3))
    (kk : ∀ (τ : St) (H1 : Heap) (locs1 : List Loc), τ = uI σ o k v → xW D KA lay st ad ids A H0 τ H1 locs1 → W p l e R s m args below meth c H1 locs1 cells slots Q (F0 m (pc + 3) ls rest)) : W p l e R s m args below meth c H locs cells slots Q (F0 m pc ls (.int v :: .ref (ad o) :: rest)) := by
  obtain ⟨q, hq⟩ := List.getElem?_of_mem ho
  have hs : (xws lay st KA ad ids σ).set q (ad o, .inr (ci, (xF st ad σ o ci).set k (.int v))) = xws lay st KA ad ids (uI σ o k v) := by
    refine xws_set hW.2.1 hq ?_ (fun a ha => ⟨?_, rfl, rfl⟩)
    · rw [xE_obj hl, xF_set (τ := uI σ o k v) hk (by rw [hx]; simp [xV, gI_uI]) (fun j _ hj t => by unfold xV xR; simp only [gI_uI, gJ_uI, gR_uI]; simp [hj])]
    · funext b
      simp [uI, ha]
  refine va_putF hexec hb hts hin (xTy ci) hty hnm hown hK.1 hW.1 hW.2.1 hW.2.2 q (by rw [xws_get hq, xE_obj hl]) hcl k hk hlink hsame hfin hin2 hdecl (hty k hk) hn hfit (by rw [xF_len]; exact hk) hdg (fun H1 locs1 h1 h2 h3 => ?_)
  rw [hs] at h1 h2
  exact kk _ H1 locs1 rfl ⟨h1, h2, h3⟩
theorem x_putrF (hexec : p.tables.exec = Jvm.exec) (hb : c.code = cc) {own ref : String} {index : Nat} {Ts : List Cond} (hts : ∀ w ∈ Ts, w.before args s = true) (hown : s.vm.findClass own = some m.cls) (hK : xK D KA s) (hW : xW D KA lay st ad ids A H0 σ H locs) (o ci k : Nat) (hin : ∀ w ∈ u_ws (xC ci).1 (xC ci).2.1 (xC ci).2.2, w ∈ Ts) (hty : ∀ k, k < (xC ci).2.2 → parseFieldDescriptor ((xC ci).2.1 k).2.2.1 = some (xTy ci k)) (hnm : ∀ a, a < (xC ci).2.2 → ∀ b, b < (xC ci).2.2 → a ≠ b → ((xC ci).2.1 a).2.1 ≠ ((xC ci).2.1 b).2.1) (ho : o ∈ ids) (hl : lay o = (0, ci)) (hcl : vwCl[ci]? = some (xC ci)) (hk : k < (xC ci).2.2) (hlink : (Cond.fieldLink own index ref ((xC ci).2.1 k).2.1 ((xC ci).2.1 k).2.2.1).before args s = true) (hsame : ∀ x, s.fieldFound? ((xC ci).2.1 k).1 ((xC ci).2.1 k).2.1 ((xC ci).2.1 k).2.2.1 = some x → s.fieldFound? ref ((xC ci).2.1 k).2.1 ((xC ci).2.1 k).2.2.1 = some x) (hfin : ((xC ci).2.1 k).2.2.2 = true) (hin2 : meth.name = "<init>") (hdecl : ((xC ci).2.1 k).1 = own) {d : Nat} (hx : xc (xTy ci k) = 2) (hst : st o k = none) (hn : narrow (xTy ci k) (.ref (ad d)) = .ref (ad d)) (hfit : fits (xTy ci k) (.ref (ad d)) = true) (hdg : decode cc pc = .ok (.putfield index, 3))
    (kk : ∀ (τ : St) (H1 : Heap) (locs1 : List Loc), τ = uR σ o k (some d) → xW D KA lay st ad ids A H0 τ H1 locs1 → W p l e R s m args below meth c H1 locs1 cells slots Q (F0 m (pc + 3) ls rest)) : W p l e R s m args below meth c H locs cells slots Q (F0 m pc ls (.ref (ad d) :: .ref (ad o) :: rest)) := by
  obtain ⟨q, hq⟩ := List.getElem?_of_mem ho
  have hs : (xws lay st KA ad ids σ).set q (ad o, .inr (ci, (xF st ad σ o ci).set k (.ref (ad d)))) = xws lay st KA ad ids (uR σ o k (some d)) := by
    refine xws_set hW.2.1 hq ?_ (fun a ha => ⟨rfl, rfl, ?_⟩)
    · rw [xE_obj hl, xF_set (τ := uR σ o k (some d)) hk (by rw [hx]; simp [xV, xR, hst, gR_uR, va_rf]) (fun j _ hj t => by unfold xV xR; simp only [gI_uR, gJ_uR, gR_uR]; simp [hj])]
    · funext b
      simp [uR, ha]
  refine va_putF hexec hb hts hin (xTy ci) hty hnm hown hK.1 hW.1 hW.2.1 hW.2.2 q (by rw [xws_get hq, xE_obj hl]) hcl k hk hlink hsame hfin hin2 hdecl (hty k hk) hn hfit (by rw [xF_len]; exact hk) hdg (fun H1 locs1 h1 h2 h3 => ?_)
  rw [hs] at h1 h2
  exact kk _ H1 locs1 rfl ⟨h1, h2, h3⟩
end XN
