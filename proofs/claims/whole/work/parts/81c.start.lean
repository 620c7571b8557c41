/-! THE START: the loop of the law, and its entry -/
theorem hdI_X11_init : yX11_init.cls ≠ "java/lang/invoke/MethodHandle" ∧ yX11_init.cls ≠ "java/lang/invoke/VarHandle" ∧ (parseMethodDescriptor yX11_init.desc).map (fun d => d.parameters.length) = some 0 := by decide +kernel
theorem hdI_X12_init : yX12_init.cls ≠ "java/lang/invoke/MethodHandle" ∧ yX12_init.cls ≠ "java/lang/invoke/VarHandle" ∧ (parseMethodDescriptor yX12_init.desc).map (fun d => d.parameters.length) = some 0 := by decide +kernel
theorem sw_in (v : Int32) : ∃ n : Nat, n < 32 ∧ (v &&& (31 : Int32)) = nI n := by
  refine ⟨(v &&& (31 : Int32)).toBitVec.toNat, ?_, ?_⟩
  · have e : (v &&& (31 : Int32)).toBitVec.toNat = v.toBitVec.toNat &&& 31 := by
      show (v.toBitVec &&& (31 : Int32).toBitVec).toNat = _
      rw [BitVec.toNat_and]
      rfl
    rw [e]
    exact Nat.lt_of_le_of_lt Nat.and_le_right (by decide)
  · apply Int32.toBitVec_inj.mp
    show _ = BitVec.ofNat 32 _
    rw [BitVec.ofNat_toNat, BitVec.setWidth_eq]
theorem lp_lo : ∀ L, L < 6 → ∀ j, j < 65 → Int32.ofNat L - 6 < nI (6 * j) := by decide +kernel
theorem lp_go {L j : Nat} (hL : L ≤ 384) (hj : j ≤ 64) (h : ¬ Int32.ofNat L - 6 < nI (6 * j)) : 6 * j + 6 ≤ L := by
  rcases Nat.lt_or_ge L 6 with q | q
  · exact absurd (lp_lo L q j (by omega)) h
  · have e : Int32.ofNat L - 6 = nI (L - 6) := nI_sub (a := L) (b := 6) q
    rw [e] at h
    have : ¬ L - 6 < 6 * j := fun z => h ((nI_ltI (by omega) (by omega)).mpr z)
    omega
section XQ
variable {p : Program} {l : Launch} {e : Env} {R : Room} {s : State} {m : MethodId} {args : Array Value} {below : List Frame} {meth : Method} {c : Code} {H : Heap} {locs : List Loc} {cells slots : Nat} {Q : State → Prop}
variable {cc : ByteArray} {pc : Nat} {ls : Array Slot} {rest : List Value} {D : va_G} {KA : Nat → ClassId} {lay lay2 : Nat → Nat × Nat} {st st2 : Nat → Nat → Option Nat} {ad : Nat → Nat} {ids : List Nat} {A : Nat → Prop} {H0 : Heap} {σ τ : St}
/-- a new object begins a second world -/
theorem x2_new (hexec : p.tables.exec = Jvm.exec) (hb : c.code = cc) {own : String} {index : Nat} {Ts : List Cond} (hts : ∀ w ∈ Ts, w.before args s = true) (hown : s.vm.findClass own = some m.cls) (hK : xK D KA s) (hW : xW D KA lay st ad ids A H0 σ H locs) (hA : ∀ q, H0.size ≤ q → A q) (ci N : Nat) (hN : (xC ci).2.2 = N) (hin : ∀ w ∈ u_ws (xC ci).1 (xC ci).2.1 (xC ci).2.2, w ∈ Ts) (hty : ∀ k, k < (xC ci).2.2 → parseFieldDescriptor ((xC ci).2.1 k).2.2.1 = some (xTy ci k)) (hdv : ∀ k, k < (xC ci).2.2 → defaultValue (xTy ci k) = xdv (xc (xTy ci k))) (hcl : vwCl[ci]? = some (xC ci)) (hlink : (Cond.classLink own index (xC ci).1).before args s = true) (hinst : (Cond.instantiable (xC ci).1 (xC ci).2.2).before args s = true) (hini : (Cond.initialized (xC ci).1).before args s = true) (hl : lay2 0 = (0, ci)) (hst : ∀ k, st2 0 k = none) (g1 : ∀ k, gR τ 0 k = none) (g2 : ∀ k, gI τ 0 k = 0) (g3 : ∀ k, gJ τ 0 k = 0) (hcells : cells + 1 ≤ R.cells) (hslots : slots + N ≤ R.slots) (hdg : decode cc pc = .ok (.new index, 3))
    (kk : ∀ (q : Nat) (H1 : Heap), xW D KA lay st ad ids A H0 σ H1 locs → xW D KA lay2 st2 (fun _ => q) [0] A H0 τ H1 locs → (∀ c ∈ ids, ad c ≠ q) → W p l e R s m args below meth c H1 locs (cells + 1) (slots + N) Q (F0 m (pc + 3) ls (.ref q :: rest))) : W p l e R s m args below meth c H locs cells slots Q (F0 m pc ls rest) := by
  subst hN
  refine va_new (fs := (List.range (xC ci).2.2).map (fun k => xdv (xc (xTy ci k)))) hexec hb hts hin (xTy ci) hty hown hlink hinst hini hK.1 hW.1 hW.2.1 hW.2.2 hA hcl (fun j hj => ?_) hcells hslots hdg (fun q H1 h1 h2 h3 => ?_)
  · rw [hdv j hj]
    simp [vp_V, hj]
  · have he : xE lay2 st2 KA (fun _ => q) τ 0 = .inr (ci, (List.range (xC ci).2.2).map (fun k => xdv (xc (xTy ci k)))) := by
      rw [xE_obj hl]
      unfold xF
      congr 2
      apply List.map_congr_left
      intro k _
      unfold xV xdv xR
      rw [hst k, g1, g2, g3]
      generalize xc (xTy ci k) = t
      cases t with
      | zero => rfl
      | succ t => cases t <;> rfl
    rw [← he] at h1 h2
    generalize hws : xws lay st KA ad ids σ = ws at h1 h2
    have pre : ∀ (k : Nat) (y : Nat × va_E), ws[k]? = some y → (ws ++ [(q, xE lay2 st2 KA (fun _ => q) τ 0)])[k]? = some y := fun k y hy => by
      rw [List.getElem?_append_left (List.getElem?_eq_some_iff.mp hy).1]
      exact hy
    have las : (ws ++ [(q, xE lay2 st2 KA (fun _ => q) τ 0)])[ws.length]? = some (q, xE lay2 st2 KA (fun _ => q) τ 0) := by
      rw [List.getElem?_append_right (Nat.le_refl _), Nat.sub_self]
      rfl
    refine kk q H1 ⟨?_, ?_, h3⟩ ⟨?_, ?_, h3⟩ ?_
    · rw [hws]
      exact fun k y hy => h1 k y (pre k y hy)
    · rw [hws]
      exact ⟨fun i j x y hi hj e => h2.1 i j x y (pre i x hi) (pre j y hj) e, fun k y hy => h2.2 k y (pre k y hy)⟩
    · intro k y hy
      have e0 : k = 0 ∧ y = (q, xE lay2 st2 KA (fun _ => q) τ 0) := by
        cases k with
        | zero => exact ⟨rfl, (Option.some.inj hy).symm⟩
        | succ k => exact absurd hy (by simp [xws])
      rw [e0.2]
      exact h1 _ _ las
    · refine ⟨fun i j x y hi hj _ => ?_, fun k y hy => ?_⟩
      · have a1 := (List.getElem?_eq_some_iff.mp hi).1
        have a2 := (List.getElem?_eq_some_iff.mp hj).1
        simp [xws] at a1 a2
        omega
      · have e0 : y = (q, xE lay2 st2 KA (fun _ => q) τ 0) := by
          cases k with
          | zero => exact (Option.some.inj hy).symm
          | succ k => exact absurd hy (by simp [xws])
        rw [e0]
        exact h2.2 _ _ las
    · intro c hc e
      obtain ⟨k, hk⟩ := List.getElem?_of_mem hc
      have a1 := xws_get (lay := lay) (st := st) (KA := KA) (ad := ad) (σ := σ) hk
      rw [hws] at a1
      have a2 := h2.1 k ws.length _ _ (pre k _ a1) las e
      have a3 := (List.getElem?_eq_some_iff.mp a1).1
      omega
end XQ
set_option maxHeartbeats 4000000 in
set_option maxRecDepth 100000 in
theorem law_lp {p : Program} {l : Launch} {e : Env} {s : State} {m : MethodId} {below : List Frame} {meth : Method} {c : Code} {b L : Nat} {xs : Nat → Int32} (hL : L ≤ 384) (C0 : lw_At p s m meth c b L xs) {D : va_G} {KA : Nat → ClassId} {zs : ZS} {adR : Nat → Nat} (hK : xK D KA s) (hZ : xZ zs (fun q => s.heap.size ≤ q) s) : ∀ (k j : Nat), j + k = 65 → j ≤ 64 → ∀ {adX : Nat → Nat} {idsX : List Nat} {σ ρ : St} {H : Heap} {locs : List Loc} {ls : Array Slot} {cells slots : Nat}, tW D KA adX idsX adR σ ρ s H locs → Rel idsX σ ρ → cells ≤ 86 + j → slots ≤ 3600 + 13 * j → lv_has ls 4 [(0, .ref b), (1, .ref (adX 0)), (2, .ref (adR 0)), (3, .int (nI (6 * j)))] → W p l e room_1 s m #[Value.ref b] below meth c H locs cells slots (lw_Z below #[Value.ref b] s) (F0 m 18 ls []) := by
  intro k
  induction k with
  | zero => intro j h1 h2; omega
  | succ k ih =>
    intro j h1 hj adX idsX σ ρ H locs ls cells slots hT hR hc hs hl
    obtain ⟨hx, hb, hr, hml, hown, hts0, hX, hbl, hlocks, hgv⟩ := id C0
    have hbA : ¬ (fun q : Nat => s.heap.size ≤ q) b := Nat.not_le.mpr hbl
    have hS := hT.1.2.2
    refine lv_iload_n hx hb dL_law_18 rfl (lv_at hl 3 rfl) ?_
    refine lv_aload_n hx hb dL_law_19 rfl (lv_at hl 0 rfl) ?_
    refine va_slen hx hb hX hbl hbA hS dL_law_20 ?_
    refine lv_bipush (v := 6) hx hb dL_law_21 (by decide) ?_
    refine lv_isub hx hb dL_law_23 ?_
    refine lv_icmp_gt (tgt := 1199) hx hb dL_law_24 (by decide) (fun _ => ?_) (fun c1 => ?_)
    · refine lv_iconst (v := 1) hx hb dL_law_1199 (by decide) ?_
      refine va_forget (fun q hq => hS.2.2 q hq) ?_
      refine W.widen (k := 600000) (n := 7302250) (by omega) (by omega) ?_
      exact lw_ret hx hb hr hlocks dL_law_1200
    have hlt := lp_go hL hj c1
    refine lv_aload_n hx hb dL_law_27 rfl (lv_at hl 0 rfl) ?_
    refine lv_iload_n hx hb dL_law_28 rfl (lv_at hl 3 rfl) ?_
    refine va_sld hx hb hX hbl hbA hS (vin (by omega) (by omega)) dL_law_29 ?_
    refine lv_bipush (v := 31) hx hb dL_law_30 (by decide) ?_
    refine lv_iand hx hb dL_law_32 ?_
    obtain ⟨n, hn, en⟩ := sw_in (xs (nI (6 * j)).toNatClampNeg)
    rw [en]
    have hin : ∀ k : Nat, 1 ≤ k → k < 6 → vp_in (nI (6 * j) + nI k) L := fun k k1 k2 => by
      rw [nI_add]
      exact vin (by omega) (by omega)
    have hk : ∀ (σ1 ρ1 : St) (adX1 : Nat → Nat) (ids1 : List Nat) (H1 : Heap) (locs1 : List Loc) (ls1 : Array Slot), tW D KA adX1 ids1 adR σ1 ρ1 s H1 locs1 → Rel ids1 σ1 ρ1 → lv_has ls1 4 [(0, .ref b), (1, .ref (adX1 0)), (2, .ref (adR 0)), (3, .int (nI (6 * j)))] → W p l e room_1 s m #[Value.ref b] below meth c H1 locs1 (cells + 1) (slots + 13) (lw_Z below #[Value.ref b] s) (F0 m 1193 ls1 []) := by
      intro σ1 ρ1 adX1 ids1 H1 locs1 ls1 hT1 hR1 hl1
      have e6 : nI (6 * j) + Int32.ofInt 6 = nI (6 * (j + 1)) := by
        show nI (6 * j) + nI 6 = _
        rw [nI_add]
        congr 1
      refine lv_iinc (v := nI (6 * (j + 1))) (lv' := [(3, .int (nI (6 * (j + 1)))), (0, .ref b), (1, .ref (adX1 0)), (2, .ref (adR 0))]) hx hb dL_law_1193 hl1 (k := 3) rfl e6 (by decide) rfl (fun ls2 hl2 => ?_)
      refine lv_goto (tgt := 18) hx hb dL_law_1196 (by decide) ?_
      exact ih (j + 1) (by omega) (by omega) hT1 hR1 (by omega) (by omega) (lv_sub hl2 [1, 2, 3, 0] rfl)
    have hcs : cells + 1 ≤ 600000 ∧ slots + 13 ≤ 7302250 := by omega
    have key : n = 0 ∨ n = 1 ∨ n = 2 ∨ n = 3 ∨ n = 4 ∨ n = 5 ∨ n = 6 ∨ n = 7 ∨ n = 8 ∨ n = 9 ∨ n = 10 ∨ n = 11 ∨ n = 12 ∨ n = 13 ∨ n = 14 ∨ n = 15 ∨ n = 16 ∨ n = 17 ∨ n = 18 ∨ n = 19 ∨ n = 20 ∨ n = 21 ∨ n = 22 ∨ n = 23 ∨ n = 24 ∨ n = 25 ∨ n = 26 ∨ n = 27 ∨ n = 28 ∨ n = 29 ∨ n = 30 ∨ n = 31 := by omega
    rcases key with rfl | rfl | rfl | rfl | rfl | rfl | rfl | rfl | rfl | rfl | rfl | rfl | rfl | rfl | rfl | rfl | rfl | rfl | rfl | rfl | rfl | rfl | rfl | rfl | rfl | rfl | rfl | rfl | rfl | rfl | rfl | rfl
    · refine lv_tableIn (off := 143) (tgt := 176) hx hb dL_law_33 (by decide) (by decide) (by decide) (by decide) ?_
      exact law_c0 C0 hK hZ hT hR hcs hin hl hk
    · refine lv_tableIn (off := 176) (tgt := 209) hx hb dL_law_33 (by decide) (by decide) (by decide) (by decide) ?_
      exact law_c1 C0 hK hZ hT hR hcs hin hl hk
    · refine lv_tableIn (off := 209) (tgt := 242) hx hb dL_law_33 (by decide) (by decide) (by decide) (by decide) ?_
      exact law_c2 C0 hK hZ hT hR hcs hin hl hk
    · refine lv_tableIn (off := 262) (tgt := 295) hx hb dL_law_33 (by decide) (by decide) (by decide) (by decide) ?_
      exact law_c3 C0 hK hZ hT hR hcs hin hl hk
    · refine lv_tableIn (off := 305) (tgt := 338) hx hb dL_law_33 (by decide) (by decide) (by decide) (by decide) ?_
      exact law_c4 C0 hK hZ hT hR hcs hin hl hk
    · refine lv_tableIn (off := 328) (tgt := 361) hx hb dL_law_33 (by decide) (by decide) (by decide) (by decide) ?_
      exact law_c5 C0 hK hZ hT hR hcs hin hl hk
    · refine lv_tableIn (off := 381) (tgt := 414) hx hb dL_law_33 (by decide) (by decide) (by decide) (by decide) ?_
      exact law_c6 C0 hK hZ hT hR hcs hin hl hk
    · refine lv_tableIn (off := 414) (tgt := 447) hx hb dL_law_33 (by decide) (by decide) (by decide) (by decide) ?_
      exact law_c7 C0 hK hZ hT hR hcs hin hl hk
    · refine lv_tableIn (off := 457) (tgt := 490) hx hb dL_law_33 (by decide) (by decide) (by decide) (by decide) ?_
      exact law_c8 C0 hK hZ hT hR hcs hin hl hk
    · refine lv_tableIn (off := 490) (tgt := 523) hx hb dL_law_33 (by decide) (by decide) (by decide) (by decide) ?_
      exact law_c9 C0 hK hZ hT hR hcs hin hl hk
    · refine lv_tableIn (off := 524) (tgt := 557) hx hb dL_law_33 (by decide) (by decide) (by decide) (by decide) ?_
      exact law_c10 C0 hK hZ hT hR hcs hin hl hk
    · refine lv_tableIn (off := 547) (tgt := 580) hx hb dL_law_33 (by decide) (by decide) (by decide) (by decide) ?_
      exact law_c11 C0 hK hZ hT hR hcs hin hl hk
    · refine lv_tableIn (off := 610) (tgt := 643) hx hb dL_law_33 (by decide) (by decide) (by decide) (by decide) ?_
      exact law_c12 C0 hK hZ hT hR hcs hin hl hk
    · refine lv_tableIn (off := 623) (tgt := 656) hx hb dL_law_33 (by decide) (by decide) (by decide) (by decide) ?_
      exact law_c13 C0 hK hZ hT hR hcs hin hl hk
    · refine lv_tableIn (off := 646) (tgt := 679) hx hb dL_law_33 (by decide) (by decide) (by decide) (by decide) ?_
      exact law_c14 C0 hK hZ hT hR hcs hin hl hk
    · refine lv_tableIn (off := 659) (tgt := 692) hx hb dL_law_33 (by decide) (by decide) (by decide) (by decide) ?_
      exact law_c15 C0 hK hZ hT hR hcs hin hl hk
    · refine lv_tableIn (off := 682) (tgt := 715) hx hb dL_law_33 (by decide) (by decide) (by decide) (by decide) ?_
      exact law_c16 C0 hK hZ hT hR hcs hin hl hk
    · refine lv_tableIn (off := 695) (tgt := 728) hx hb dL_law_33 (by decide) (by decide) (by decide) (by decide) ?_
      exact law_c17 C0 hK hZ hT hR hcs hin hl hk
    · refine lv_tableIn (off := 728) (tgt := 761) hx hb dL_law_33 (by decide) (by decide) (by decide) (by decide) ?_
      exact law_c18 C0 hK hZ hT hR hcs hin hl hk
    · refine lv_tableIn (off := 751) (tgt := 784) hx hb dL_law_33 (by decide) (by decide) (by decide) (by decide) ?_
      exact law_c19 C0 hK hZ hT hR hcs hin hl hk
    · refine lv_tableIn (off := 764) (tgt := 797) hx hb dL_law_33 (by decide) (by decide) (by decide) (by decide) ?_
      exact law_c20 C0 hK hZ hT hR hcs hin hl hk
    · refine lv_tableIn (off := 797) (tgt := 830) hx hb dL_law_33 (by decide) (by decide) (by decide) (by decide) ?_
      exact law_c21 C0 hK hZ hT hR hcs hin hl hk
    · refine lv_tableIn (off := 840) (tgt := 873) hx hb dL_law_33 (by decide) (by decide) (by decide) (by decide) ?_
      exact law_c22 C0 hK hZ hT hR hcs hin hl hk
    · refine lv_tableIn (off := 863) (tgt := 896) hx hb dL_law_33 (by decide) (by decide) (by decide) (by decide) ?_
      exact law_c23 C0 hK hZ hT hR hcs hin hl hk
    · refine lv_tableIn (off := 876) (tgt := 909) hx hb dL_law_33 (by decide) (by decide) (by decide) (by decide) ?_
      exact law_c24 C0 hK hZ hT hR hcs hin hl hk
    · refine lv_tableIn (off := 889) (tgt := 922) hx hb dL_law_33 (by decide) (by decide) (by decide) (by decide) ?_
      exact law_c25 C0 hK hZ hT hR hcs hin hl hk
    · refine lv_tableIn (off := 902) (tgt := 935) hx hb dL_law_33 (by decide) (by decide) (by decide) (by decide) ?_
      exact law_c26 C0 hK hZ hT hR hcs hin hl hk
    · refine lv_tableIn (off := 925) (tgt := 958) hx hb dL_law_33 (by decide) (by decide) (by decide) (by decide) ?_
      exact law_c27 C0 hK hZ hT hR hcs hin hl hk
    · refine lv_tableIn (off := 968) (tgt := 1001) hx hb dL_law_33 (by decide) (by decide) (by decide) (by decide) ?_
      exact law_c28 C0 hK hZ hT hR hcs hin hl hk
    · refine lv_tableIn (off := 1011) (tgt := 1044) hx hb dL_law_33 (by decide) (by decide) (by decide) (by decide) ?_
      exact law_c29 C0 hK hZ hT hR hcs hin hl hk
    · refine lv_tableIn (off := 1074) (tgt := 1107) hx hb dL_law_33 (by decide) (by decide) (by decide) (by decide) ?_
      exact law_c30 C0 hK hZ hT hR hcs hin hl hk
    · refine lv_tableIn (off := 1127) (tgt := 1160) hx hb dL_law_33 (by decide) (by decide) (by decide) (by decide) ?_
      exact law_c31 C0 hK hZ hT hR hcs hin hl hk
set_option maxHeartbeats 4000000 in
set_option maxRecDepth 100000 in
theorem whole_start {p : Program} {e : Env} {s : State} {m : MethodId} {below : List Frame} {meth : Method} {c : Code} (l : Launch) (hflags : l.flags = flags0) {b L : Nat} {xs : Nat → Int32} (hL : L ≤ 384) (C0 : lw_At p s m meth c b L xs) : W p l e room_1 s m #[Value.ref b] below meth c s.heap [] 0 0 (lw_Z below #[Value.ref b] s) (entryFrame m ([Value.ref b] : List Value).toArray 4) := by
  obtain ⟨hx, hb, hr, hml, hown, hts0, hX, hbl, hlocks, hgv⟩ := id C0
  have hg := flat_of_before _ hgv
  have hts : ∀ w ∈ wsL_law, w.before #[Value.ref b] s = true := fun w h => hts0 w (wsL_law_in w h)
  have hown : s.vm.findClass RL = some m.cls := hown
  have hA : ∀ q : Nat, s.heap.size ≤ q → (fun q : Nat => s.heap.size ≤ q) q := fun _ h => h
  obtain ⟨D, KA, hK⟩ := st_xK hts0 hg
  obtain ⟨zs, hZ⟩ := st_xZ hts0 hg
  have hl := lv_entry ([.ref b]) (n := 4) (Nat.le_of_ble_eq_true rfl)
  rw [lg_entry_eq]
  generalize (lg_sl ([.ref b]) ++ List.replicate (4 - (lg_sl ([.ref b])).length) Slot.unset).toArray = ls at hl ⊢
  have hl : lv_has ls 4 [(0, .ref b)] := hl
  -- nothing is there yet
  obtain ⟨σ0, hσ0⟩ : ∃ σ : St, σ = (fun _ _ => 0, fun _ _ => 0, fun _ _ => none) := ⟨_, rfl⟩
  have n1 : ∀ c k, gR (nC σ0 0) c k = none := fun c k => by
    rw [gR_nC, hσ0]
    split <;> rfl
  have n2 : ∀ c k, gI (nC σ0 0) c k = 0 := fun c k => by
    rw [gI_nC, hσ0]
    split <;> rfl
  have W0X : xW D KA layX st0 (fun _ => 0) [] (fun q => s.heap.size ≤ q) s.heap σ0 s.heap [] := ⟨fun k q h => by simp [xws] at h, ⟨fun i j p q h => by simp [xws] at h, fun k q h => by simp [xws] at h⟩, va_S.rf⟩
  refine x_new hx hb hts hown hK W0X hA 0 11 13 rfl inlX11 tyX11_ok dvX11 rfl (hts _ (sb_wsL_law_wsL_law_r1 _ (List.mem_of_getElem? (i := 0) rfl))) (hts _ (sb_wsL_law_wsL_law_r1 _ (List.mem_of_getElem? (i := 1) rfl))) (hts _ (sb_wsL_law_wsL_law_r1 _ (List.mem_of_getElem? (i := 2) rfl))) List.not_mem_nil rfl (fun _ => rfl) (fun c h => absurd h List.not_mem_nil) (Nat.le_of_ble_eq_true rfl) (Nat.le_of_ble_eq_true rfl) dL_law_0 (fun ad1 H1 _ hW => ?_)
  refine lv_dup hx hb dL_law_3 rfl ?_
  have h := X_init n1 n2 (post := fun σ ids => FX σ ∧ ids = idsX0) (fun _ h => ⟨h, rfl⟩)
  refine x2_callvA (va_runI (As := []) (rest := [.ref (ad1 0)]) ⟨hx, hb, hml, hown, hts⟩ (J_X11_init l (List.mem_singleton.mpr rfl) h) (cwI 0 hts gL_law_X11_init rfl rfl rfl (hts _ (sb_wsL_law_wsL_law_r1 _ (List.mem_of_getElem? (i := 2) rfl))) (hts _ (sb_wsL_law_wsL_law_r1 _ (List.mem_of_getElem? (i := 7) rfl))) (hts _ (sb_wsL_law_wsL_law_r1 _ (List.mem_of_getElem? (i := 8) rfl))) rfl hdI_X11_init ⟨Nat.le_of_ble_eq_true rfl, Nat.le_of_ble_eq_true rfl⟩) (x_preS hK hZ hA hW) rfl rfl hl.1 rfl (lv_room (Nat.le_of_ble_eq_true rfl)) dL_law_4 ⟨Nat.le_of_ble_eq_true rfl, Nat.le_of_ble_eq_true rfl⟩) hW hA (fun σ1 adX idsX H2 locs2 h hk1 he1 hs1 hn1 hWX => ?_)
  try dsimp only at h
  obtain ⟨hFX, rfl⟩ := h
  have e0 : ad1 0 = adX 0 := (he1 0 (List.mem_singleton.mpr rfl)).symm
  rw [e0]
  have hWX : xW D KA layX stX adX idsX0 (fun q => s.heap.size ≤ q) s.heap σ1 H2 locs2 := x_restat hWX (st_same (rl := rlX) hFX.1 14 (fun _ _ q => ⟨stX_hk q, stI_hk q⟩) (by decide +kernel))
  refine lv_astore_n (lv' := [(1, .ref (adX 0)), (0, .ref b)]) hx hb dL_law_7 rfl hl (by decide) rfl (fun ls hl => ?_)
  -- the reference
  have n3 : ∀ c k, gJ (nC σ0 0) c k = 0 := fun c k => by
    rw [gJ_nC, hσ0]
    split <;> rfl
  refine x2_new (lay2 := layR) (st2 := st0) (τ := nC σ0 0) hx hb hts hown hK hWX hA 12 71 rfl inlX12 tyX12_ok dvX12 rfl (hts _ (sb_wsL_law_wsL_law_r1 _ (List.mem_of_getElem? (i := 3) rfl))) (hts _ (sb_wsL_law_wsL_law_r1 _ (List.mem_of_getElem? (i := 4) rfl))) (hts _ (sb_wsL_law_wsL_law_r1 _ (List.mem_of_getElem? (i := 5) rfl))) rfl (fun _ => rfl) (n1 0) (n2 0) (n3 0) (Nat.le_of_ble_eq_true rfl) (Nat.le_of_ble_eq_true rfl) dL_law_8 (fun q H3 hWX hW2 hdq => ?_)
  refine lv_dup hx hb dL_law_11 rfl ?_
  have h := R_init n1 n2 (post := fun σ ids => FR σ ∧ ids = List.range 35) (fun _ h => ⟨h, rfl⟩)
  refine x2_callvA (va_runI (As := []) (rest := [.ref q]) ⟨hx, hb, hml, hown, hts⟩ (J_X12_init l (List.mem_singleton.mpr rfl) h) (cwI 0 hts gL_law_X12_init rfl rfl rfl (hts _ (sb_wsL_law_wsL_law_r1 _ (List.mem_of_getElem? (i := 5) rfl))) (hts _ (sb_wsL_law_wsL_law_r12 _ (List.mem_of_getElem? (i := 15) rfl))) (hts _ (sb_wsL_law_wsL_law_r12 _ (List.mem_of_getElem? (i := 16) rfl))) rfl hdI_X12_init ⟨Nat.le_of_ble_eq_true rfl, Nat.le_of_ble_eq_true rfl⟩) (x_preS hK hZ hA hW2) rfl rfl hl.1 rfl (lv_room (Nat.le_of_ble_eq_true rfl)) dL_law_12 ⟨Nat.le_of_ble_eq_true rfl, Nat.le_of_ble_eq_true rfl⟩) hW2 hA (fun ρ1 adR ids2 H4 locs4 h hk2 he2 hs2 hn2 hWR => ?_)
  try dsimp only at h
  obtain ⟨hFR, rfl⟩ := h
  have e2 : q = adR 0 := (he2 0 (List.mem_singleton.mpr rfl)).symm
  have hltX := xW_lt hWX
  have hWX4 := xW_other (lay := layR) (st := stR) hWX hk2 (fun c hc o ho z => hdq o ho z.symm) hWR.2.2
  have hdis : ∀ c ∈ idsX0, ∀ o ∈ idsR, adX c ≠ adR o := by
    intro c hc o ho z
    rcases hn2 o ho with ⟨c2, hc2, e⟩ | h
    · exact hdq c hc (z.trans e.symm)
    · have := hltX c hc
      omega
  rw [e2]
  refine lv_astore_n (lv' := [(2, .ref (adR 0)), (1, .ref (adX 0)), (0, .ref b)]) hx hb dL_law_15 rfl hl (by decide) rfl (fun ls hl => ?_)
  refine lv_iconst (v := 0) hx hb dL_law_16 (by decide) ?_
  refine lv_istore_n (lv' := [(3, .int 0), (2, .ref (adR 0)), (1, .ref (adX 0)), (0, .ref b)]) hx hb dL_law_17 rfl hl (by decide) rfl (fun ls hl => ?_)
  exact law_lp (l := l) hL C0 hK hZ 65 0 rfl (by omega) ⟨hWX4, hWR, hdis⟩ (Rel0 hFX hFR) (Nat.le_of_ble_eq_true rfl) (Nat.le_of_ble_eq_true rfl) (lv_sub hl [3, 2, 1, 0] rfl)
