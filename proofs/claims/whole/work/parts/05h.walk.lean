theorem hwX11_isOfKind_0 : (.classLink RX11 364 "FortyBelts$Crossed" : Cond) ∈ wsX11_isOfKind := (List.mem_cons_of_mem _ (List.mem_of_getElem? (i := 0) rfl))
theorem hwX11_isOfKind_1 : (.classLink RX11 369 "FortyBelts$Idler" : Cond) ∈ wsX11_isOfKind := (List.mem_cons_of_mem _ (List.mem_of_getElem? (i := 1) rfl))
theorem hwX11_isOfKind_2 : (.classLink RX11 372 "FortyBelts$Cone" : Cond) ∈ wsX11_isOfKind := (List.mem_cons_of_mem _ (List.mem_of_getElem? (i := 2) rfl))
theorem hwX11_isOfKind_3 : (.classLink RX11 375 "FortyBelts$Loose" : Cond) ∈ wsX11_isOfKind := (List.mem_cons_of_mem _ (List.mem_of_getElem? (i := 3) rfl))
theorem hwX11_isOfKind_4 : (.classLink RX11 378 "FortyBelts$Twist" : Cond) ∈ wsX11_isOfKind := (List.mem_cons_of_mem _ (List.mem_of_getElem? (i := 4) rfl))
set_option maxHeartbeats 4000000 in
set_option maxRecDepth 100000 in
theorem J_X11_isOfKind {D : va_G} {KA : Nat → ClassId} {zs : ZS} {ad : Nat → Nat} {ids : List Nat} {sz : Nat} (l : Launch) (hI : ∀ c, c < 52 ∧ ¬ c = 19 → c ∈ ids) {a0 : Nat} {a1 : Int32} (ok_a0 : okB ids a0) {σ : St} {post : Int32 → St → Prop} (h : wX11_isOfKind ids a0 a1 σ post) : Met l yX11_isOfKind wsX11_isOfKind rmX11_isOfKind (va_Pc [.ref (ad a0), .int a1] (xIn D KA zs layX stX ad ids sz σ)) (va_Qi post (xOut D KA layX stX ad ids) (xA ad ids sz)) 0 0 (xA ad ids sz) := by
  refine Met.ofW (cc := cX11_isOfKind) (maxL := 2) (ret := (some .boolean)) (by decide) rfl ?_
  intro p e s m args below meth c s₁ B hml hv
  obtain ⟨hav, hsz, hK, hZ, hP, hD⟩ := hv
  have hx := B.exec
  have hb := B.bytes
  have hr := B.returns
  have hts := atoms_spec (ws := wsX11_isOfKind) B.pre
  have hown : s.vm.findClass RX11 = some m.cls := findClass_of_methodNamed B.named
  have hlocks := B.notSynchronized
  subst hsz
  have hA : ∀ q : Nat, s.heap.size ≤ q → xA ad ids s.heap.size q := fun q h => Or.inr h
  have hW : xW D KA layX stX ad ids (xA ad ids s.heap.size) s.heap σ s.heap [] := ⟨hP, xA_D (D := D) hD, va_S.rf⟩
  have kr : ∀ (v : Int32) (σ : St) (H : Heap) (locs : List Loc) (ls : Array Slot) (pc : Nat), xW D KA layX stX ad ids (xA ad ids s.heap.size) s.heap σ H locs → isB v → post v σ → decode cX11_isOfKind pc = .ok (.ireturn, 1) → W p l e rmX11_isOfKind s m args below meth c H locs 0 0 (MQ below (va_Qi post (xOut D KA layX stX ad ids) (xA ad ids s.heap.size)) args s 0 0 (xA ad ids s.heap.size)) (F0 m pc ls [.int v]) := fun v σ H locs ls pc hW hz h hd => x_zret hx hb hr hlocks hW hz h hd
  have hl := lv_entry ([.ref (ad a0), .int a1]) (n := 2) (Nat.le_of_ble_eq_true rfl)
  rw [show entryFrame m args 2 = entryFrame m ([.ref (ad a0), .int a1] : List Value).toArray 2 from by rw [hav]]
  rw [lg_entry_eq]
  generalize (lg_sl ([.ref (ad a0), .int a1]) ++ List.replicate (2 - (lg_sl ([.ref (ad a0), .int a1])).length) Slot.unset).toArray = ls at hl ⊢
  have hl : lv_has ls 2 [(0, .ref (ad a0)), (1, .int a1)] := hl
  show W p l e rmX11_isOfKind s m args below meth c s.heap [] 0 0 _ _
  generalize MQ below (va_Qi post (xOut D KA layX stX ad ids) (xA ad ids s.heap.size)) args s 0 0 (xA ad ids s.heap.size) = Q at kr ⊢
  have main : ∀ (H : Heap) (locs : List Loc) (ls : Array Slot), xW D KA layX stX ad ids (xA ad ids s.heap.size) s.heap σ H locs → lv_has ls 2 [(0, .ref (ad a0)), (1, .int a1)] → W p l e rmX11_isOfKind s m args below meth c H locs 0 0 Q (F0 m 0 ls []) := by
    intro H locs ls hW hl
    unfold wX11_isOfKind at h
    refine lv_iload_n hx hb dX11_isOfKind_0 rfl (lv_at hl 1 rfl) ?_
    refine lv_topi (fun v1001 hv1001 => ?_)
    have h := h v1001 hv1001
    obtain ⟨hcase, h⟩ := h
    by_cases hc1_0 : v1001 = (1 : Int32)
    · have h := hcase hc1_0
      clear hcase
      refine lv_tableIn (tgt := 36) hx hb dX11_isOfKind_1 (by rw [hc1_0] <;> decide) (by rw [hc1_0] <;> decide) (by rw [hc1_0]; rfl) (by decide) ?_
      refine lv_aload_n hx hb dX11_isOfKind_36 rfl (lv_at hl 0 rfl) ?_
      refine x_instX2 hx hb hown hK hW a0 ok_a0 (hts _ hwX11_isOfKind_0) dX11_isOfKind_37 ?_
      obtain ⟨hz1002, h⟩ := h
      exact kr _ _ _ _ _ _ hW hz1002 h dX11_isOfKind_40
    clear hcase
    obtain ⟨hcase, h⟩ := h
    by_cases hc1_1 : v1001 = (2 : Int32)
    · have h := hcase hc1_1
      clear hcase
      refine lv_tableIn (tgt := 41) hx hb dX11_isOfKind_1 (by rw [hc1_1] <;> decide) (by rw [hc1_1] <;> decide) (by rw [hc1_1]; rfl) (by decide) ?_
      refine lv_aload_n hx hb dX11_isOfKind_41 rfl (lv_at hl 0 rfl) ?_
      refine x_instX3 hx hb hown hK hW a0 ok_a0 (hts _ hwX11_isOfKind_1) dX11_isOfKind_42 ?_
      obtain ⟨hz1003, h⟩ := h
      exact kr _ _ _ _ _ _ hW hz1003 h dX11_isOfKind_45
    clear hcase
    obtain ⟨hcase, h⟩ := h
    by_cases hc1_2 : v1001 = (3 : Int32)
    · have h := hcase hc1_2
      clear hcase
      refine lv_tableIn (tgt := 46) hx hb dX11_isOfKind_1 (by rw [hc1_2] <;> decide) (by rw [hc1_2] <;> decide) (by rw [hc1_2]; rfl) (by decide) ?_
      refine lv_aload_n hx hb dX11_isOfKind_46 rfl (lv_at hl 0 rfl) ?_
      refine x_instX1 hx hb hown hK hW a0 ok_a0 (hts _ hwX11_isOfKind_2) dX11_isOfKind_47 ?_
      obtain ⟨hz1004, h⟩ := h
      exact kr _ _ _ _ _ _ hW hz1004 h dX11_isOfKind_50
    clear hcase
    obtain ⟨hcase, h⟩ := h
    by_cases hc1_3 : v1001 = (4 : Int32)
    · have h := hcase hc1_3
      clear hcase
      refine lv_tableIn (tgt := 51) hx hb dX11_isOfKind_1 (by rw [hc1_3] <;> decide) (by rw [hc1_3] <;> decide) (by rw [hc1_3]; rfl) (by decide) ?_
      refine lv_aload_n hx hb dX11_isOfKind_51 rfl (lv_at hl 0 rfl) ?_
      refine x_instX4 hx hb hown hK hW a0 ok_a0 (hts _ hwX11_isOfKind_3) dX11_isOfKind_52 ?_
      obtain ⟨hz1005, h⟩ := h
      exact kr _ _ _ _ _ _ hW hz1005 h dX11_isOfKind_55
    clear hcase
    obtain ⟨hcase, h⟩ := h
    by_cases hc1_4 : v1001 = (5 : Int32)
    · have h := hcase hc1_4
      clear hcase
      refine lv_tableIn (tgt := 56) hx hb dX11_isOfKind_1 (by rw [hc1_4] <;> decide) (by rw [hc1_4] <;> decide) (by rw [hc1_4]; rfl) (by decide) ?_
      refine lv_aload_n hx hb dX11_isOfKind_56 rfl (lv_at hl 0 rfl) ?_
      refine x_instX10 hx hb hown hK hW a0 ok_a0 (hts _ hwX11_isOfKind_4) dX11_isOfKind_57 ?_
      obtain ⟨hz1006, h⟩ := h
      exact kr _ _ _ _ _ _ hW hz1006 h dX11_isOfKind_60
    clear hcase
    have h := h ⟨hc1_0, hc1_1, hc1_2, hc1_3, hc1_4⟩
    refine lv_tableOut (tgt := 61) hx hb dX11_isOfKind_1 (tsw_out v1001 (1) (5) (fun k h1 h2 => ?_)) (by decide) ?_
    · rcases (show k = 1 ∨ k = 2 ∨ k = 3 ∨ k = 4 ∨ k = 5 by omega) with rfl | rfl | rfl | rfl | rfl
      · exact hc1_0
      · exact hc1_1
      · exact hc1_2
      · exact hc1_3
      · exact hc1_4
    refine lv_iconst (v := 1) hx hb dX11_isOfKind_61 (by decide) ?_
    exact kr _ _ _ _ _ _ hW isB_1 h dX11_isOfKind_62
  exact main _ _ _ hW hl
set_option maxHeartbeats 4000000 in
set_option maxRecDepth 100000 in
theorem J_X11_lowestBit {D : va_G} {KA : Nat → ClassId} {zs : ZS} {ad : Nat → Nat} {ids : List Nat} {sz : Nat} (l : Launch) (hI : ∀ c, c < 52 ∧ ¬ c = 19 → c ∈ ids) {a0 : Int32}  {σ : St} {post : Int32 → St → Prop} (h : wX11_lowestBit ids a0 σ post) : Met l yX11_lowestBit wsX11_lowestBit rmX11_lowestBit (va_Pc [.int a0] (xIn D KA zs layX stX ad ids sz σ)) (va_Qi post (xOut D KA layX stX ad ids) (xA ad ids sz)) 0 0 (xA ad ids sz) := by
  refine Met.ofW (cc := cX11_lowestBit) (maxL := 2) (ret := (some .int)) (by decide) rfl ?_
  intro p e s m args below meth c s₁ B hml hv
  obtain ⟨hav, hsz, hK, hZ, hP, hD⟩ := hv
  have hx := B.exec
  have hb := B.bytes
  have hr := B.returns
  have hts := atoms_spec (ws := wsX11_lowestBit) B.pre
  have hown : s.vm.findClass RX11 = some m.cls := findClass_of_methodNamed B.named
  have hlocks := B.notSynchronized
  subst hsz
  have hA : ∀ q : Nat, s.heap.size ≤ q → xA ad ids s.heap.size q := fun q h => Or.inr h
  have hW : xW D KA layX stX ad ids (xA ad ids s.heap.size) s.heap σ s.heap [] := ⟨hP, xA_D (D := D) hD, va_S.rf⟩
  have kr : ∀ (v : Int32) (σ : St) (H : Heap) (locs : List Loc) (ls : Array Slot) (pc : Nat), xW D KA layX stX ad ids (xA ad ids s.heap.size) s.heap σ H locs → post v σ → decode cX11_lowestBit pc = .ok (.ireturn, 1) → W p l e rmX11_lowestBit s m args below meth c H locs 0 0 (MQ below (va_Qi post (xOut D KA layX stX ad ids) (xA ad ids s.heap.size)) args s 0 0 (xA ad ids s.heap.size)) (F0 m pc ls [.int v]) := fun v σ H locs ls pc hW h hd => x_iret hx hb hr hlocks hW h hd
  have hl := lv_entry ([.int a0]) (n := 2) (Nat.le_of_ble_eq_true rfl)
  rw [show entryFrame m args 2 = entryFrame m ([.int a0] : List Value).toArray 2 from by rw [hav]]
  rw [lg_entry_eq]
  generalize (lg_sl ([.int a0]) ++ List.replicate (2 - (lg_sl ([.int a0])).length) Slot.unset).toArray = ls at hl ⊢
  have hl : lv_has ls 2 [(0, .int a0)] := hl
  show W p l e rmX11_lowestBit s m args below meth c s.heap [] 0 0 _ _
  generalize MQ below (va_Qi post (xOut D KA layX stX ad ids) (xA ad ids s.heap.size)) args s 0 0 (xA ad ids s.heap.size) = Q at kr ⊢
  have blk2 : ∀ (x0 : Int32) (n : Nat) (x1 : Int32) (σ : St) (H : Heap) (locs : List Loc) (ls : Array Slot), xW D KA layX stX ad ids (xA ad ids s.heap.size) s.heap σ H locs → lv_has ls 2 [(0, .int x0), (1, .int x1)] → wX11_lowestBit_2 ids post x0 n x1 σ → W p l e rmX11_lowestBit s m args below meth c H locs 0 0 Q (F0 m 2 ls []) := by
    intro   x0 n
    induction n with
    | zero => intro x1 σ H locs ls hW hl h; exact (h : False).elim
    | succ n ih =>
      intro x1 σ H locs ls hW hl h
      have hk2 : ∀ (x1 : Int32) (σ : St) (H : Heap) (locs : List Loc) (ls : Array Slot), xW D KA layX stX ad ids (xA ad ids s.heap.size) s.heap σ H locs → lv_has ls 2 [(0, .int x0), (1, .int x1)] → (wX11_lowestBit_2 ids post x0 n) x1 σ → W p l e rmX11_lowestBit s m args below meth c H locs 0 0 Q (F0 m 2 ls []) := fun x1 σ H locs ls hW hl h => ih x1 σ H locs ls hW hl h
      rw [wX11_lowestBit_2_s] at h
      try dsimp only at h
      generalize wX11_lowestBit_2 ids post x0 n = k2 at h hk2
      refine lv_iload_n hx hb dX11_lowestBit_2 rfl (lv_at hl 1 rfl) ?_
      refine lv_bipush (v := 32) hx hb dX11_lowestBit_3 (by decide) ?_
      refine lv_icmp_ge (tgt := 25) hx hb dX11_lowestBit_5 (by decide) (fun c1 => ?_) (fun c1 => ?_)
      · have h := h.1 c1
        refine lv_iconst (v := (-1)) hx hb dX11_lowestBit_25 (by decide) ?_
        exact kr _ _ _ _ _ _ hW h dX11_lowestBit_26
      · have h := h.2 c1
        refine lv_iload_n hx hb dX11_lowestBit_8 rfl (lv_at hl 0 rfl) ?_
        refine lv_iload_n hx hb dX11_lowestBit_9 rfl (lv_at hl 1 rfl) ?_
        refine lv_ishr hx hb dX11_lowestBit_10 ?_
        refine lv_iconst (v := 1) hx hb dX11_lowestBit_11 (by decide) ?_
        refine lv_iand hx hb dX11_lowestBit_12 ?_
        refine lv_iconst (v := 1) hx hb dX11_lowestBit_13 (by decide) ?_
        refine lv_icmp_ne (tgt := 19) hx hb dX11_lowestBit_14 (by decide) (fun c2 => ?_) (fun c2 => ?_)
        · have h := h.1 c2
          obtain ⟨v3, hv3⟩ : ∃ y : Int32, y = x1 + (1 : Int32) := ⟨_, rfl⟩
          have h := h v3 hv3
          refine lv_iinc (v := v3) (lv' := [(1, .int v3), (0, .int x0)]) hx hb dX11_lowestBit_19 hl (k := 1) rfl (by rw [hv3]; rfl) (by decide) rfl (fun ls hl => ?_)
          refine lv_goto (tgt := 2) hx hb dX11_lowestBit_22 (by decide) ?_
          exact hk2 v3 _ _ _ _ hW (lv_sub hl [1, 0] rfl) h
        · have h := h.2 c2
          refine lv_iload_n hx hb dX11_lowestBit_17 rfl (lv_at hl 1 rfl) ?_
          exact kr _ _ _ _ _ _ hW h dX11_lowestBit_18
  have main : ∀ (H : Heap) (locs : List Loc) (ls : Array Slot), xW D KA layX stX ad ids (xA ad ids s.heap.size) s.heap σ H locs → lv_has ls 2 [(0, .int a0)] → W p l e rmX11_lowestBit s m args below meth c H locs 0 0 Q (F0 m 0 ls []) := by
    intro H locs ls hW hl
    unfold wX11_lowestBit at h
    refine lv_iconst (v := 0) hx hb dX11_lowestBit_0 (by decide) ?_
    refine lv_istore_n (lv' := [(1, .int (0 : Int32)), (0, .int a0)]) hx hb dX11_lowestBit_1 rfl hl (by decide) rfl (fun ls hl => ?_)
    obtain ⟨n, h⟩ := h
    exact blk2   a0 n (0 : Int32) _ _ _ _ hW (lv_sub hl [1, 0] rfl) h
  exact main _ _ _ hW hl
theorem hwX6_pulls_0 : (.fieldLink RX6 42 "FortyBelts$Mill" "belts" "[LFortyBelts$Belt;" : Cond) ∈ wsX6_pulls := (List.mem_cons_of_mem _ (List.mem_append_left _ (List.mem_append_left _ (List.mem_append_left _ (List.mem_append_left _ (List.mem_append_left _ (List.mem_append_left _ (List.mem_append_left _ (List.mem_append_left _ (List.mem_append_left _ (List.mem_of_getElem? (i := 1) rfl)))))))))))
theorem hwX6_pulls_1 : (.fieldLink RX6 65 "FortyBelts$Mill" "beltCount" "I" : Cond) ∈ wsX6_pulls := (List.mem_cons_of_mem _ (List.mem_append_left _ (List.mem_append_left _ (List.mem_append_left _ (List.mem_append_left _ (List.mem_append_left _ (List.mem_append_left _ (List.mem_append_left _ (List.mem_append_left _ (List.mem_append_left _ (List.mem_of_getElem? (i := 0) rfl)))))))))))
theorem hwX6_pulls_2 : (.fieldLink RX6 86 "FortyBelts$Belt" "driver" "I" : Cond) ∈ wsX6_pulls := (List.mem_cons_of_mem _ (List.mem_append_left _ (List.mem_append_left _ (List.mem_append_left _ (List.mem_append_left _ (List.mem_append_left _ (List.mem_append_left _ (List.mem_append_left _ (List.mem_append_left _ (List.mem_append_left _ (List.mem_of_getElem? (i := 2) rfl)))))))))))
theorem hwX6_pulls_3 : (.fieldLink RX6 68 "FortyBelts$Belt" "driven" "I" : Cond) ∈ wsX6_pulls := (List.mem_cons_of_mem _ (List.mem_append_left _ (List.mem_append_left _ (List.mem_append_left _ (List.mem_append_left _ (List.mem_append_left _ (List.mem_append_left _ (List.mem_append_left _ (List.mem_append_left _ (List.mem_append_left _ (List.mem_of_getElem? (i := 3) rfl)))))))))))
theorem hcX6_pulls_X6 : ∀ w ∈ wsX60, w ∈ wsX6_pulls := fun _ h => (List.mem_cons_of_mem _ (List.mem_append_left _ (List.mem_append_left _ (List.mem_append_left _ (List.mem_append_left _ (List.mem_append_left _ (List.mem_append_left _ (List.mem_append_left _ (List.mem_append_right _ h)))))))))
theorem hcX6_pulls_X0 : ∀ w ∈ wsX00, w ∈ wsX6_pulls := fun _ h => (List.mem_cons_of_mem _ (List.mem_append_left _ (List.mem_append_left _ (List.mem_append_left _ (List.mem_append_left _ (List.mem_append_left _ (List.mem_append_left _ (List.mem_append_right _ h))))))))
theorem hcX6_pulls_X1 : ∀ w ∈ wsX10, w ∈ wsX6_pulls := fun _ h => (List.mem_cons_of_mem _ (List.mem_append_left _ (List.mem_append_left _ (List.mem_append_left _ (List.mem_append_left _ (List.mem_append_left _ (List.mem_append_right _ h)))))))
theorem hcX6_pulls_X2 : ∀ w ∈ wsX20, w ∈ wsX6_pulls := fun _ h => (List.mem_cons_of_mem _ (List.mem_append_left _ (List.mem_append_left _ (List.mem_append_left _ (List.mem_append_left _ (List.mem_append_right _ h))))))
theorem hcX6_pulls_X3 : ∀ w ∈ wsX30, w ∈ wsX6_pulls := fun _ h => (List.mem_cons_of_mem _ (List.mem_append_left _ (List.mem_append_left _ (List.mem_append_left _ (List.mem_append_right _ h)))))
theorem hcX6_pulls_X4 : ∀ w ∈ wsX40, w ∈ wsX6_pulls := fun _ h => (List.mem_cons_of_mem _ (List.mem_append_left _ (List.mem_append_left _ (List.mem_append_right _ h))))
theorem hcX6_pulls_X10 : ∀ w ∈ wsX100, w ∈ wsX6_pulls := fun _ h => (List.mem_cons_of_mem _ (List.mem_append_left _ (List.mem_append_right _ h)))
theorem hBX6_pulls : xHB wsX6_pulls := ⟨hcX6_pulls_X0, hcX6_pulls_X1, hcX6_pulls_X2, hcX6_pulls_X3, hcX6_pulls_X4, hcX6_pulls_X10⟩
set_option maxHeartbeats 4000000 in
set_option maxRecDepth 100000 in
theorem J_X6_pulls {D : va_G} {KA : Nat → ClassId} {zs : ZS} {ad : Nat → Nat} {ids : List Nat} {sz : Nat} (l : Launch) (hI : ∀ c, c < 52 ∧ ¬ c = 19 → c ∈ ids) {a1 : Int32}  {σ : St} {post : Int32 → St → Prop} (h : wX6_pulls ids a1 σ post) : Met l yX6_pulls wsX6_pulls rmX6_pulls (va_Pc [.ref (ad 1), .int a1] (xIn D KA zs layX stX ad ids sz σ)) (va_Qi post (xOut D KA layX stX ad ids) (xA ad ids sz)) 0 0 (xA ad ids sz) := by
  refine Met.ofW (cc := cX6_pulls) (maxL := 4) (ret := (some .int)) (by decide) rfl ?_
  intro p e s m args below meth c s₁ B hml hv
  obtain ⟨hav, hsz, hK, hZ, hP, hD⟩ := hv
  have hx := B.exec
  have hb := B.bytes
  have hr := B.returns
  have hts := atoms_spec (ws := wsX6_pulls) B.pre
  have hown : s.vm.findClass RX6 = some m.cls := findClass_of_methodNamed B.named
  have hlocks := B.notSynchronized
  subst hsz
  have hA : ∀ q : Nat, s.heap.size ≤ q → xA ad ids s.heap.size q := fun q h => Or.inr h
  have hW : xW D KA layX stX ad ids (xA ad ids s.heap.size) s.heap σ s.heap [] := ⟨hP, xA_D (D := D) hD, va_S.rf⟩
  have kr : ∀ (v : Int32) (σ : St) (H : Heap) (locs : List Loc) (ls : Array Slot) (pc : Nat), xW D KA layX stX ad ids (xA ad ids s.heap.size) s.heap σ H locs → post v σ → decode cX6_pulls pc = .ok (.ireturn, 1) → W p l e rmX6_pulls s m args below meth c H locs 0 0 (MQ below (va_Qi post (xOut D KA layX stX ad ids) (xA ad ids s.heap.size)) args s 0 0 (xA ad ids s.heap.size)) (F0 m pc ls [.int v]) := fun v σ H locs ls pc hW h hd => x_iret hx hb hr hlocks hW h hd
  have hl := lv_entry ([.ref (ad 1), .int a1]) (n := 4) (Nat.le_of_ble_eq_true rfl)
  rw [show entryFrame m args 4 = entryFrame m ([.ref (ad 1), .int a1] : List Value).toArray 4 from by rw [hav]]
  rw [lg_entry_eq]
  generalize (lg_sl ([.ref (ad 1), .int a1]) ++ List.replicate (4 - (lg_sl ([.ref (ad 1), .int a1])).length) Slot.unset).toArray = ls at hl ⊢
  have hl : lv_has ls 4 [(0, .ref (ad 1)), (1, .int a1)] := hl
  show W p l e rmX6_pulls s m args below meth c s.heap [] 0 0 _ _
  generalize MQ below (va_Qi post (xOut D KA layX stX ad ids) (xA ad ids s.heap.size)) args s 0 0 (xA ad ids s.heap.size) = Q at kr ⊢
  have blk51 : ∀ (x1 : Int32) (k4 : Int32 → Int32 → St → Prop) (hk4 : ∀ (x2 : Int32) (x3 : Int32) (σ : St) (H : Heap) (locs : List Loc) (ls : Array Slot), xW D KA layX stX ad ids (xA ad ids s.heap.size) s.heap σ H locs → lv_has ls 4 [(0, .ref (ad 1)), (1, .int x1), (2, .int x2), (3, .int x3)] → k4 x2 x3 σ → W p l e rmX6_pulls s m args below meth c H locs 0 0 Q (F0 m 4 ls [])) (x2 : Int32) (x3 : Int32) (σ : St) (H : Heap) (locs : List Loc) (ls : Array Slot), xW D KA layX stX ad ids (xA ad ids s.heap.size) s.heap σ H locs → lv_has ls 4 [(0, .ref (ad 1)), (1, .int x1), (2, .int x2), (3, .int x3)] → wX6_pulls_51 ids k4 post x1 x2 x3 σ → W p l e rmX6_pulls s m args below meth c H locs 0 0 Q (F0 m 51 ls []) := by
    intro x1 k4 hk4 x2 x3 σ H locs ls hW hl h
    unfold wX6_pulls_51 at h
    obtain ⟨v1, hv1⟩ : ∃ y : Int32, y = x3 + (1 : Int32) := ⟨_, rfl⟩
    have h := h v1 hv1
    refine lv_iinc (v := v1) (lv' := [(3, .int v1), (0, .ref (ad 1)), (1, .int x1), (2, .int x2)]) hx hb dX6_pulls_51 hl (k := 3) rfl (by rw [hv1]; rfl) (by decide) rfl (fun ls hl => ?_)
    refine lv_goto (tgt := 4) hx hb dX6_pulls_54 (by decide) ?_
    exact hk4 x2 v1 _ _ _ _ hW (lv_sub hl [1, 2, 3, 0] rfl) h
  have blk38 : ∀ (x1 : Int32) (k4 : Int32 → Int32 → St → Prop) (hk4 : ∀ (x2 : Int32) (x3 : Int32) (σ : St) (H : Heap) (locs : List Loc) (ls : Array Slot), xW D KA layX stX ad ids (xA ad ids s.heap.size) s.heap σ H locs → lv_has ls 4 [(0, .ref (ad 1)), (1, .int x1), (2, .int x2), (3, .int x3)] → k4 x2 x3 σ → W p l e rmX6_pulls s m args below meth c H locs 0 0 Q (F0 m 4 ls [])) (x2 : Int32) (x3 : Int32) (σ : St) (H : Heap) (locs : List Loc) (ls : Array Slot), xW D KA layX stX ad ids (xA ad ids s.heap.size) s.heap σ H locs → lv_has ls 4 [(0, .ref (ad 1)), (1, .int x1), (2, .int x2), (3, .int x3)] → wX6_pulls_38 ids k4 post x1 x2 x3 σ → W p l e rmX6_pulls s m args below meth c H locs 0 0 Q (F0 m 38 ls []) := by
    intro x1 k4 hk4 x2 x3 σ H locs ls hW hl h
    unfold wX6_pulls_38 at h
    refine lv_iload_n hx hb dX6_pulls_38 rfl (lv_at hl 2 rfl) ?_
    refine lv_aload_n hx hb dX6_pulls_39 rfl (lv_at hl 0 rfl) ?_
    refine lv_aload_n hx hb dX6_pulls_40 rfl (lv_at hl 0 rfl) ?_
    refine xgX6_12r hx hb hts hown hK hW 1 hcX6_pulls_X6 (hI 1 (by decide)) lX_1 (hts _ hwX6_pulls_0) (sX_1_12 _) dX6_pulls_41 ?_
    refine lv_iload_n hx hb dX6_pulls_44 rfl (lv_at hl 3 rfl) ?_
    obtain ⟨hi2, h⟩ := h
    obtain ⟨o3, hr4, ok_o3, h⟩ := h
    refine x_ald hx hb hK hW 11 0 (hI 11 (by decide)) lX_11 rfl hi2 ((sX_11 _ _).trans hr4) dX6_pulls_45 ?_
    refine x_calli (va_runV (As := [.ref (ad o3)]) (rest := [.int x2]) ⟨hx, hb, hml, hown, hts⟩ (J_X6_pull l hI ok_o3 h) (cwV 1 hts gX6_pulls_X6_pull rfl rfl rfl hdV_X6_pull ⟨Nat.le_of_ble_eq_true rfl, Nat.le_of_ble_eq_true rfl⟩) (x_preV (ci := 6) hK hZ hA hW (hI 1 (by decide)) lX_1 rfl) rfl rfl hl.1 rfl (lv_room (Nat.le_of_ble_eq_true rfl)) dX6_pulls_46 ⟨Nat.zero_le _, Nat.zero_le _⟩) hW hA (fun r6 σ5 H locs h hW => ?_)
    try dsimp only at h
    refine lv_iadd hx hb dX6_pulls_49 ?_
    refine lv_topi (fun v7 hv7 => ?_)
    have h := h v7 hv7
    refine lv_istore_n (lv' := [(2, .int v7), (0, .ref (ad 1)), (1, .int x1), (3, .int x3)]) hx hb dX6_pulls_50 rfl hl (by decide) rfl (fun ls hl => ?_)
    exact blk51 x1 k4 hk4 v7 x3 _ _ _ _ hW (lv_sub hl [1, 2, 0, 3] rfl) h
  have blk4 : ∀ (x1 : Int32) (n : Nat) (x2 : Int32) (x3 : Int32) (σ : St) (H : Heap) (locs : List Loc) (ls : Array Slot), xW D KA layX stX ad ids (xA ad ids s.heap.size) s.heap σ H locs → lv_has ls 4 [(0, .ref (ad 1)), (1, .int x1), (2, .int x2), (3, .int x3)] → wX6_pulls_4 ids post x1 n x2 x3 σ → W p l e rmX6_pulls s m args below meth c H locs 0 0 Q (F0 m 4 ls []) := by
    intro   x1 n
    induction n with
    | zero => intro x2 x3 σ H locs ls hW hl h; exact (h : False).elim
    | succ n ih =>
      intro x2 x3 σ H locs ls hW hl h
      have hk4 : ∀ (x2 : Int32) (x3 : Int32) (σ : St) (H : Heap) (locs : List Loc) (ls : Array Slot), xW D KA layX stX ad ids (xA ad ids s.heap.size) s.heap σ H locs → lv_has ls 4 [(0, .ref (ad 1)), (1, .int x1), (2, .int x2), (3, .int x3)] → (wX6_pulls_4 ids post x1 n) x2 x3 σ → W p l e rmX6_pulls s m args below meth c H locs 0 0 Q (F0 m 4 ls []) := fun x2 x3 σ H locs ls hW hl h => ih x2 x3 σ H locs ls hW hl h
      rw [wX6_pulls_4_s] at h
      try dsimp only at h
      generalize wX6_pulls_4 ids post x1 n = k4 at h hk4
      refine lv_iload_n hx hb dX6_pulls_4 rfl (lv_at hl 3 rfl) ?_
      refine lv_aload_n hx hb dX6_pulls_5 rfl (lv_at hl 0 rfl) ?_
      refine xgX6_3 hx hb hts hown hK hW 1 hcX6_pulls_X6 (hI 1 (by decide)) lX_1 (hts _ hwX6_pulls_1) dX6_pulls_6 ?_
      refine lv_icmp_ge (tgt := 57) hx hb dX6_pulls_9 (by decide) (fun c8 => ?_) (fun c8 => ?_)
      · have h := h.1 c8
        refine lv_iload_n hx hb dX6_pulls_57 rfl (lv_at hl 2 rfl) ?_
        exact kr _ _ _ _ _ _ hW h dX6_pulls_58
      · have h := h.2 c8
        refine lv_aload_n hx hb dX6_pulls_12 rfl (lv_at hl 0 rfl) ?_
        refine xgX6_12r hx hb hts hown hK hW 1 hcX6_pulls_X6 (hI 1 (by decide)) lX_1 (hts _ hwX6_pulls_0) (sX_1_12 _) dX6_pulls_13 ?_
        refine lv_iload_n hx hb dX6_pulls_16 rfl (lv_at hl 3 rfl) ?_
        obtain ⟨hi9, h⟩ := h
        obtain ⟨o10, hr11, ok_o10, h⟩ := h
        refine x_ald hx hb hK hW 11 0 (hI 11 (by decide)) lX_11 rfl hi9 ((sX_11 _ _).trans hr11) dX6_pulls_17 ?_
        refine xgB_1 hx hb hts hown hK hW o10 hBX6_pulls ok_o10 (hts _ hwX6_pulls_2) (fun _ h => h) dX6_pulls_18 ?_
        refine lv_iload_n hx hb dX6_pulls_21 rfl (lv_at hl 1 rfl) ?_
        refine lv_icmp_eq (tgt := 38) hx hb dX6_pulls_22 (by decide) (fun c12 => ?_) (fun c12 => ?_)
        · have h := h.1 c12
          exact blk38 x1 k4 hk4 x2 x3 _ _ _ _ hW (lv_sub hl [0, 1, 2, 3] rfl) h
        · have h := h.2 c12
          refine lv_aload_n hx hb dX6_pulls_25 rfl (lv_at hl 0 rfl) ?_
          refine xgX6_12r hx hb hts hown hK hW 1 hcX6_pulls_X6 (hI 1 (by decide)) lX_1 (hts _ hwX6_pulls_0) (sX_1_12 _) dX6_pulls_26 ?_
          refine lv_iload_n hx hb dX6_pulls_29 rfl (lv_at hl 3 rfl) ?_
          obtain ⟨o14, hr15, ok_o14, h⟩ := h
          refine x_ald hx hb hK hW 11 0 (hI 11 (by decide)) lX_11 rfl hi9 ((sX_11 _ _).trans hr15) dX6_pulls_30 ?_
          refine xgB_2 hx hb hts hown hK hW o14 hBX6_pulls ok_o14 (hts _ hwX6_pulls_3) (fun _ h => h) dX6_pulls_31 ?_
          refine lv_iload_n hx hb dX6_pulls_34 rfl (lv_at hl 1 rfl) ?_
          refine lv_icmp_ne (tgt := 51) hx hb dX6_pulls_35 (by decide) (fun c16 => ?_) (fun c16 => ?_)
          · have h := h.1 c16
            exact blk51 x1 k4 hk4 x2 x3 _ _ _ _ hW (lv_sub hl [0, 1, 2, 3] rfl) h
          · have h := h.2 c16
            exact blk38 x1 k4 hk4 x2 x3 _ _ _ _ hW (lv_sub hl [0, 1, 2, 3] rfl) h
  have main : ∀ (H : Heap) (locs : List Loc) (ls : Array Slot), xW D KA layX stX ad ids (xA ad ids s.heap.size) s.heap σ H locs → lv_has ls 4 [(0, .ref (ad 1)), (1, .int a1)] → W p l e rmX6_pulls s m args below meth c H locs 0 0 Q (F0 m 0 ls []) := by
    intro H locs ls hW hl
    unfold wX6_pulls at h
    refine lv_iconst (v := 0) hx hb dX6_pulls_0 (by decide) ?_
    refine lv_istore_n (lv' := [(2, .int (0 : Int32)), (0, .ref (ad 1)), (1, .int a1)]) hx hb dX6_pulls_1 rfl hl (by decide) rfl (fun ls hl => ?_)
    refine lv_iconst (v := 0) hx hb dX6_pulls_2 (by decide) ?_
    refine lv_istore_n (lv' := [(3, .int (0 : Int32)), (2, .int (0 : Int32)), (0, .ref (ad 1)), (1, .int a1)]) hx hb dX6_pulls_3 rfl hl (by decide) rfl (fun ls hl => ?_)
    obtain ⟨n, h⟩ := h
    exact blk4   a1 n (0 : Int32) (0 : Int32) _ _ _ _ hW (lv_sub hl [2, 3, 1, 0] rfl) h
  exact main _ _ _ hW hl
theorem hwX6_isBent_0 : (.fieldLink RX6 15 "FortyBelts$Mill" "bends" "[I" : Cond) ∈ wsX6_isBent := (List.mem_cons_of_mem _ (List.mem_append_left _ (List.mem_append_left _ (List.mem_append_left _ (List.mem_append_left _ (List.mem_append_left _ (List.mem_append_left _ (List.mem_append_left _ (List.mem_append_left _ (List.mem_append_left _ (List.mem_of_getElem? (i := 0) rfl)))))))))))
theorem hcX6_isBent_X6 : ∀ w ∈ wsX60, w ∈ wsX6_isBent := fun _ h => (List.mem_cons_of_mem _ (List.mem_append_left _ (List.mem_append_left _ (List.mem_append_left _ (List.mem_append_left _ (List.mem_append_left _ (List.mem_append_left _ (List.mem_append_left _ (List.mem_append_right _ h)))))))))
set_option maxHeartbeats 4000000 in
set_option maxRecDepth 100000 in
theorem J_X6_isBent {D : va_G} {KA : Nat → ClassId} {zs : ZS} {ad : Nat → Nat} {ids : List Nat} {sz : Nat} (l : Launch) (hI : ∀ c, c < 52 ∧ ¬ c = 19 → c ∈ ids) {a1 : Int32}  {σ : St} {post : Int32 → St → Prop} (h : wX6_isBent ids a1 σ post) : Met l yX6_isBent wsX6_isBent rmX6_isBent (va_Pc [.ref (ad 1), .int a1] (xIn D KA zs layX stX ad ids sz σ)) (va_Qi post (xOut D KA layX stX ad ids) (xA ad ids sz)) 0 0 (xA ad ids sz) := by
  refine Met.ofW (cc := cX6_isBent) (maxL := 2) (ret := (some .boolean)) (by decide) rfl ?_
  intro p e s m args below meth c s₁ B hml hv
  obtain ⟨hav, hsz, hK, hZ, hP, hD⟩ := hv
  have hx := B.exec
  have hb := B.bytes
  have hr := B.returns
  have hts := atoms_spec (ws := wsX6_isBent) B.pre
  have hown : s.vm.findClass RX6 = some m.cls := findClass_of_methodNamed B.named
  have hlocks := B.notSynchronized
  subst hsz
  have hA : ∀ q : Nat, s.heap.size ≤ q → xA ad ids s.heap.size q := fun q h => Or.inr h
  have hW : xW D KA layX stX ad ids (xA ad ids s.heap.size) s.heap σ s.heap [] := ⟨hP, xA_D (D := D) hD, va_S.rf⟩
  have kr : ∀ (v : Int32) (σ : St) (H : Heap) (locs : List Loc) (ls : Array Slot) (pc : Nat), xW D KA layX stX ad ids (xA ad ids s.heap.size) s.heap σ H locs → isB v → post v σ → decode cX6_isBent pc = .ok (.ireturn, 1) → W p l e rmX6_isBent s m args below meth c H locs 0 0 (MQ below (va_Qi post (xOut D KA layX stX ad ids) (xA ad ids s.heap.size)) args s 0 0 (xA ad ids s.heap.size)) (F0 m pc ls [.int v]) := fun v σ H locs ls pc hW hz h hd => x_zret hx hb hr hlocks hW hz h hd
  have hl := lv_entry ([.ref (ad 1), .int a1]) (n := 2) (Nat.le_of_ble_eq_true rfl)
  rw [show entryFrame m args 2 = entryFrame m ([.ref (ad 1), .int a1] : List Value).toArray 2 from by rw [hav]]
  rw [lg_entry_eq]
  generalize (lg_sl ([.ref (ad 1), .int a1]) ++ List.replicate (2 - (lg_sl ([.ref (ad 1), .int a1])).length) Slot.unset).toArray = ls at hl ⊢
  have hl : lv_has ls 2 [(0, .ref (ad 1)), (1, .int a1)] := hl
  show W p l e rmX6_isBent s m args below meth c s.heap [] 0 0 _ _
  generalize MQ below (va_Qi post (xOut D KA layX stX ad ids) (xA ad ids s.heap.size)) args s 0 0 (xA ad ids s.heap.size) = Q at kr ⊢
  have blk19 : ∀ (s0 : Int32) (σ : St) (H : Heap) (locs : List Loc) (ls : Array Slot), xW D KA layX stX ad ids (xA ad ids s.heap.size) s.heap σ H locs → lv_has ls 2 [] → wX6_isBent_19 ids post s0 σ → W p l e rmX6_isBent s m args below meth c H locs 0 0 Q (F0 m 19 ls [.int s0]) := by
    intro   s0 σ H locs ls hW hl h
    unfold wX6_isBent_19 at h
    obtain ⟨hz1, h⟩ := h
    exact kr _ _ _ _ _ _ hW hz1 h dX6_isBent_19
  have main : ∀ (H : Heap) (locs : List Loc) (ls : Array Slot), xW D KA layX stX ad ids (xA ad ids s.heap.size) s.heap σ H locs → lv_has ls 2 [(0, .ref (ad 1)), (1, .int a1)] → W p l e rmX6_isBent s m args below meth c H locs 0 0 Q (F0 m 0 ls []) := by
    intro H locs ls hW hl
    unfold wX6_isBent at h
    refine lv_aload_n hx hb dX6_isBent_0 rfl (lv_at hl 0 rfl) ?_
    refine lv_iload_n hx hb dX6_isBent_1 rfl (lv_at hl 1 rfl) ?_
    refine x_calli (va_runV (As := [.int a1]) (rest := []) ⟨hx, hb, hml, hown, hts⟩ (J_X6_pulls l hI h) (cwV 1 hts gX6_isBent_X6_pulls rfl rfl rfl hdV_X6_pulls ⟨Nat.le_of_ble_eq_true rfl, Nat.le_of_ble_eq_true rfl⟩) (x_preV (ci := 6) hK hZ hA hW (hI 1 (by decide)) lX_1 rfl) rfl rfl hl.1 rfl (lv_room (Nat.le_of_ble_eq_true rfl)) dX6_isBent_2 ⟨Nat.zero_le _, Nat.zero_le _⟩) hW hA (fun r1002 σ1001 H locs h hW => ?_)
    try dsimp only at h
    refine lv_aload_n hx hb dX6_isBent_5 rfl (lv_at hl 0 rfl) ?_
    refine xgX6_5r hx hb hts hown hK hW 1 hcX6_isBent_X6 (hI 1 (by decide)) lX_1 (hts _ hwX6_isBent_0) (sX_1_5 _) dX6_isBent_6 ?_
    refine lv_iload_n hx hb dX6_isBent_9 rfl (lv_at hl 1 rfl) ?_
    obtain ⟨hi1003, h⟩ := h
    refine x_iald hx hb hK hW 4 (hI 4 (by decide)) lX_4 hi1003 dX6_isBent_10 ?_
    refine lv_icmp_le (tgt := 18) hx hb dX6_isBent_11 (by decide) (fun c1004 => ?_) (fun c1004 => ?_)
    · have h := h.1 c1004
      refine lv_iconst (v := 0) hx hb dX6_isBent_18 (by decide) ?_
      exact blk19   (0 : Int32) _ _ _ _ hW (lv_sub hl [] rfl) h
    · have h := h.2 c1004
      refine lv_iconst (v := 1) hx hb dX6_isBent_14 (by decide) ?_
      refine lv_goto (tgt := 19) hx hb dX6_isBent_15 (by decide) ?_
      exact blk19   (1 : Int32) _ _ _ _ hW (lv_sub hl [] rfl) h
  exact main _ _ _ hW hl
theorem hwX6_firstBent_0 : (.fieldLink RX6 56 "FortyBelts$Mill" "shaftCount" "I" : Cond) ∈ wsX6_firstBent := (List.mem_cons_of_mem _ (List.mem_append_left _ (List.mem_append_left _ (List.mem_append_left _ (List.mem_append_left _ (List.mem_append_left _ (List.mem_append_left _ (List.mem_append_left _ (List.mem_append_left _ (List.mem_append_left _ (List.mem_of_getElem? (i := 0) rfl)))))))))))
theorem hcX6_firstBent_X6 : ∀ w ∈ wsX60, w ∈ wsX6_firstBent := fun _ h => (List.mem_cons_of_mem _ (List.mem_append_left _ (List.mem_append_left _ (List.mem_append_left _ (List.mem_append_left _ (List.mem_append_left _ (List.mem_append_left _ (List.mem_append_left _ (List.mem_append_right _ h)))))))))
set_option maxHeartbeats 4000000 in
set_option maxRecDepth 100000 in
theorem J_X6_firstBent {D : va_G} {KA : Nat → ClassId} {zs : ZS} {ad : Nat → Nat} {ids : List Nat} {sz : Nat} (l : Launch) (hI : ∀ c, c < 52 ∧ ¬ c = 19 → c ∈ ids)   {σ : St} {post : Int32 → St → Prop} (h : wX6_firstBent ids  σ post) : Met l yX6_firstBent wsX6_firstBent rmX6_firstBent (va_Pc [.ref (ad 1)] (xIn D KA zs layX stX ad ids sz σ)) (va_Qi post (xOut D KA layX stX ad ids) (xA ad ids sz)) 0 0 (xA ad ids sz) := by
  refine Met.ofW (cc := cX6_firstBent) (maxL := 2) (ret := (some .int)) (by decide) rfl ?_
  intro p e s m args below meth c s₁ B hml hv
  obtain ⟨hav, hsz, hK, hZ, hP, hD⟩ := hv
  have hx := B.exec
  have hb := B.bytes
  have hr := B.returns
  have hts := atoms_spec (ws := wsX6_firstBent) B.pre
  have hown : s.vm.findClass RX6 = some m.cls := findClass_of_methodNamed B.named
  have hlocks := B.notSynchronized
  subst hsz
  have hA : ∀ q : Nat, s.heap.size ≤ q → xA ad ids s.heap.size q := fun q h => Or.inr h
  have hW : xW D KA layX stX ad ids (xA ad ids s.heap.size) s.heap σ s.heap [] := ⟨hP, xA_D (D := D) hD, va_S.rf⟩
  have kr : ∀ (v : Int32) (σ : St) (H : Heap) (locs : List Loc) (ls : Array Slot) (pc : Nat), xW D KA layX stX ad ids (xA ad ids s.heap.size) s.heap σ H locs → post v σ → decode cX6_firstBent pc = .ok (.ireturn, 1) → W p l e rmX6_firstBent s m args below meth c H locs 0 0 (MQ below (va_Qi post (xOut D KA layX stX ad ids) (xA ad ids s.heap.size)) args s 0 0 (xA ad ids s.heap.size)) (F0 m pc ls [.int v]) := fun v σ H locs ls pc hW h hd => x_iret hx hb hr hlocks hW h hd
  have hl := lv_entry ([.ref (ad 1)]) (n := 2) (Nat.le_of_ble_eq_true rfl)
  rw [show entryFrame m args 2 = entryFrame m ([.ref (ad 1)] : List Value).toArray 2 from by rw [hav]]
  rw [lg_entry_eq]
  generalize (lg_sl ([.ref (ad 1)]) ++ List.replicate (2 - (lg_sl ([.ref (ad 1)])).length) Slot.unset).toArray = ls at hl ⊢
  have hl : lv_has ls 2 [(0, .ref (ad 1))] := hl
  show W p l e rmX6_firstBent s m args below meth c s.heap [] 0 0 _ _
  generalize MQ below (va_Qi post (xOut D KA layX stX ad ids) (xA ad ids s.heap.size)) args s 0 0 (xA ad ids s.heap.size) = Q at kr ⊢
  have blk2 : ∀ (n : Nat) (x1 : Int32) (σ : St) (H : Heap) (locs : List Loc) (ls : Array Slot), xW D KA layX stX ad ids (xA ad ids s.heap.size) s.heap σ H locs → lv_has ls 2 [(0, .ref (ad 1)), (1, .int x1)] → wX6_firstBent_2 ids post  n x1 σ → W p l e rmX6_firstBent s m args below meth c H locs 0 0 Q (F0 m 2 ls []) := by
    intro    n
    induction n with
    | zero => intro x1 σ H locs ls hW hl h; exact (h : False).elim
    | succ n ih =>
      intro x1 σ H locs ls hW hl h
      have hk2 : ∀ (x1 : Int32) (σ : St) (H : Heap) (locs : List Loc) (ls : Array Slot), xW D KA layX stX ad ids (xA ad ids s.heap.size) s.heap σ H locs → lv_has ls 2 [(0, .ref (ad 1)), (1, .int x1)] → (wX6_firstBent_2 ids post  n) x1 σ → W p l e rmX6_firstBent s m args below meth c H locs 0 0 Q (F0 m 2 ls []) := fun x1 σ H locs ls hW hl h => ih x1 σ H locs ls hW hl h
      rw [wX6_firstBent_2_s] at h
      try dsimp only at h
      generalize wX6_firstBent_2 ids post  n = k2 at h hk2
      refine lv_iload_n hx hb dX6_firstBent_2 rfl (lv_at hl 1 rfl) ?_
      refine lv_aload_n hx hb dX6_firstBent_3 rfl (lv_at hl 0 rfl) ?_
      refine xgX6_0 hx hb hts hown hK hW 1 hcX6_firstBent_X6 (hI 1 (by decide)) lX_1 (hts _ hwX6_firstBent_0) dX6_firstBent_4 ?_
      refine lv_icmp_ge (tgt := 26) hx hb dX6_firstBent_7 (by decide) (fun c1 => ?_) (fun c1 => ?_)
      · have h := h.1 c1
        refine lv_iconst (v := (-1)) hx hb dX6_firstBent_26 (by decide) ?_
        exact kr _ _ _ _ _ _ hW h dX6_firstBent_27
      · have h := h.2 c1
        refine lv_aload_n hx hb dX6_firstBent_10 rfl (lv_at hl 0 rfl) ?_
        refine lv_iload_n hx hb dX6_firstBent_11 rfl (lv_at hl 1 rfl) ?_
        refine x_calli (va_runV (As := [.int x1]) (rest := []) ⟨hx, hb, hml, hown, hts⟩ (J_X6_isBent l hI h) (cwV 1 hts gX6_firstBent_X6_isBent rfl rfl rfl hdV_X6_isBent ⟨Nat.le_of_ble_eq_true rfl, Nat.le_of_ble_eq_true rfl⟩) (x_preV (ci := 6) hK hZ hA hW (hI 1 (by decide)) lX_1 rfl) rfl rfl hl.1 rfl (lv_room (Nat.le_of_ble_eq_true rfl)) dX6_firstBent_12 ⟨Nat.zero_le _, Nat.zero_le _⟩) hW hA (fun r3 σ2 H locs h hW => ?_)
        try dsimp only at h
        refine lv_if_eq (tgt := 20) hx hb dX6_firstBent_15 (by decide) (fun c4 => ?_) (fun c4 => ?_)
        · have h := h.1 c4
          obtain ⟨v5, hv5⟩ : ∃ y : Int32, y = x1 + (1 : Int32) := ⟨_, rfl⟩
          have h := h v5 hv5
          refine lv_iinc (v := v5) (lv' := [(1, .int v5), (0, .ref (ad 1))]) hx hb dX6_firstBent_20 hl (k := 1) rfl (by rw [hv5]; rfl) (by decide) rfl (fun ls hl => ?_)
          refine lv_goto (tgt := 2) hx hb dX6_firstBent_23 (by decide) ?_
          exact hk2 v5 _ _ _ _ hW (lv_sub hl [1, 0] rfl) h
        · have h := h.2 c4
          refine lv_iload_n hx hb dX6_firstBent_18 rfl (lv_at hl 1 rfl) ?_
          exact kr _ _ _ _ _ _ hW h dX6_firstBent_19
  have main : ∀ (H : Heap) (locs : List Loc) (ls : Array Slot), xW D KA layX stX ad ids (xA ad ids s.heap.size) s.heap σ H locs → lv_has ls 2 [(0, .ref (ad 1))] → W p l e rmX6_firstBent s m args below meth c H locs 0 0 Q (F0 m 0 ls []) := by
    intro H locs ls hW hl
    unfold wX6_firstBent at h
    refine lv_iconst (v := 0) hx hb dX6_firstBent_0 (by decide) ?_
    refine lv_istore_n (lv' := [(1, .int (0 : Int32)), (0, .ref (ad 1))]) hx hb dX6_firstBent_1 rfl hl (by decide) rfl (fun ls hl => ?_)
    obtain ⟨n, h⟩ := h
    exact blk2    n (0 : Int32) _ _ _ _ hW (lv_sub hl [1, 0] rfl) h
  exact main _ _ _ hW hl
theorem hwX6_firstSharedDrum_0 : (.fieldLink RX6 65 "FortyBelts$Mill" "beltCount" "I" : Cond) ∈ wsX6_firstSharedDrum := (List.mem_cons_of_mem _ (List.mem_append_left _ (List.mem_append_left _ (List.mem_append_left _ (List.mem_append_left _ (List.mem_append_left _ (List.mem_append_left _ (List.mem_append_left _ (List.mem_of_getElem? (i := 0) rfl)))))))))
theorem hwX6_firstSharedDrum_1 : (.initialized RX11 : Cond) ∈ wsX6_firstSharedDrum := (List.mem_cons_of_mem _ (List.mem_append_left _ (List.mem_append_left _ (List.mem_append_left _ (List.mem_append_left _ (List.mem_append_left _ (List.mem_append_left _ (List.mem_append_left _ (List.mem_of_getElem? (i := 5) rfl)))))))))
theorem hwX6_firstSharedDrum_2 : (.static yX11_lowestBit : Cond) ∈ wsX6_firstSharedDrum := (List.mem_cons_of_mem _ (List.mem_append_left _ (List.mem_append_left _ (List.mem_append_left _ (List.mem_append_left _ (List.mem_append_left _ (List.mem_append_left _ (List.mem_append_left _ (List.mem_of_getElem? (i := 4) rfl)))))))))
theorem hwX6_firstSharedDrum_3 : (.fieldLink RX6 42 "FortyBelts$Mill" "belts" "[LFortyBelts$Belt;" : Cond) ∈ wsX6_firstSharedDrum := (List.mem_cons_of_mem _ (List.mem_append_left _ (List.mem_append_left _ (List.mem_append_left _ (List.mem_append_left _ (List.mem_append_left _ (List.mem_append_left _ (List.mem_append_left _ (List.mem_of_getElem? (i := 1) rfl)))))))))
theorem hwX6_firstSharedDrum_4 : (.fieldLink RX6 74 "FortyBelts$Belt" "driverDrum" "I" : Cond) ∈ wsX6_firstSharedDrum := (List.mem_cons_of_mem _ (List.mem_append_left _ (List.mem_append_left _ (List.mem_append_left _ (List.mem_append_left _ (List.mem_append_left _ (List.mem_append_left _ (List.mem_append_left _ (List.mem_of_getElem? (i := 2) rfl)))))))))
theorem hwX6_firstSharedDrum_5 : (.fieldLink RX6 80 "FortyBelts$Belt" "drivenDrum" "I" : Cond) ∈ wsX6_firstSharedDrum := (List.mem_cons_of_mem _ (List.mem_append_left _ (List.mem_append_left _ (List.mem_append_left _ (List.mem_append_left _ (List.mem_append_left _ (List.mem_append_left _ (List.mem_append_left _ (List.mem_of_getElem? (i := 3) rfl)))))))))
theorem hcX6_firstSharedDrum_X6 : ∀ w ∈ wsX60, w ∈ wsX6_firstSharedDrum := fun _ h => (List.mem_cons_of_mem _ (List.mem_append_left _ (List.mem_append_left _ (List.mem_append_left _ (List.mem_append_left _ (List.mem_append_left _ (List.mem_append_left _ (List.mem_append_right _ h))))))))
theorem hcX6_firstSharedDrum_X0 : ∀ w ∈ wsX00, w ∈ wsX6_firstSharedDrum := fun _ h => (List.mem_cons_of_mem _ (List.mem_append_left _ (List.mem_append_left _ (List.mem_append_left _ (List.mem_append_left _ (List.mem_append_left _ (List.mem_append_right _ h)))))))
theorem hcX6_firstSharedDrum_X1 : ∀ w ∈ wsX10, w ∈ wsX6_firstSharedDrum := fun _ h => (List.mem_cons_of_mem _ (List.mem_append_left _ (List.mem_append_left _ (List.mem_append_left _ (List.mem_append_left _ (List.mem_append_right _ h))))))
theorem hcX6_firstSharedDrum_X2 : ∀ w ∈ wsX20, w ∈ wsX6_firstSharedDrum := fun _ h => (List.mem_cons_of_mem _ (List.mem_append_left _ (List.mem_append_left _ (List.mem_append_left _ (List.mem_append_right _ h)))))
theorem hcX6_firstSharedDrum_X3 : ∀ w ∈ wsX30, w ∈ wsX6_firstSharedDrum := fun _ h => (List.mem_cons_of_mem _ (List.mem_append_left _ (List.mem_append_left _ (List.mem_append_right _ h))))
theorem hcX6_firstSharedDrum_X4 : ∀ w ∈ wsX40, w ∈ wsX6_firstSharedDrum := fun _ h => (List.mem_cons_of_mem _ (List.mem_append_left _ (List.mem_append_right _ h)))
theorem hcX6_firstSharedDrum_X10 : ∀ w ∈ wsX100, w ∈ wsX6_firstSharedDrum := fun _ h => (List.mem_cons_of_mem _ (List.mem_append_right _ h))
theorem hBX6_firstSharedDrum : xHB wsX6_firstSharedDrum := ⟨hcX6_firstSharedDrum_X0, hcX6_firstSharedDrum_X1, hcX6_firstSharedDrum_X2, hcX6_firstSharedDrum_X3, hcX6_firstSharedDrum_X4, hcX6_firstSharedDrum_X10⟩
set_option maxHeartbeats 4000000 in
set_option maxRecDepth 100000 in
theorem J_X6_firstSharedDrum {D : va_G} {KA : Nat → ClassId} {zs : ZS} {ad : Nat → Nat} {ids : List Nat} {sz : Nat} (l : Launch) (hI : ∀ c, c < 52 ∧ ¬ c = 19 → c ∈ ids)   {σ : St} {post : Int32 → St → Prop} (h : wX6_firstSharedDrum ids  σ post) : Met l yX6_firstSharedDrum wsX6_firstSharedDrum rmX6_firstSharedDrum (va_Pc [.ref (ad 1)] (xIn D KA zs layX stX ad ids sz σ)) (va_Qi post (xOut D KA layX stX ad ids) (xA ad ids sz)) 0 0 (xA ad ids sz) := by
  refine Met.ofW (cc := cX6_firstSharedDrum) (maxL := 5) (ret := (some .int)) (by decide) rfl ?_
  intro p e s m args below meth c s₁ B hml hv
  obtain ⟨hav, hsz, hK, hZ, hP, hD⟩ := hv
  have hx := B.exec
  have hb := B.bytes
  have hr := B.returns
  have hts := atoms_spec (ws := wsX6_firstSharedDrum) B.pre
  have hown : s.vm.findClass RX6 = some m.cls := findClass_of_methodNamed B.named
  have hlocks := B.notSynchronized
  subst hsz
  have hA : ∀ q : Nat, s.heap.size ≤ q → xA ad ids s.heap.size q := fun q h => Or.inr h
  have hW : xW D KA layX stX ad ids (xA ad ids s.heap.size) s.heap σ s.heap [] := ⟨hP, xA_D (D := D) hD, va_S.rf⟩
  have kr : ∀ (v : Int32) (σ : St) (H : Heap) (locs : List Loc) (ls : Array Slot) (pc : Nat), xW D KA layX stX ad ids (xA ad ids s.heap.size) s.heap σ H locs → post v σ → decode cX6_firstSharedDrum pc = .ok (.ireturn, 1) → W p l e rmX6_firstSharedDrum s m args below meth c H locs 0 0 (MQ below (va_Qi post (xOut D KA layX stX ad ids) (xA ad ids s.heap.size)) args s 0 0 (xA ad ids s.heap.size)) (F0 m pc ls [.int v]) := fun v σ H locs ls pc hW h hd => x_iret hx hb hr hlocks hW h hd
  have hl := lv_entry ([.ref (ad 1)]) (n := 5) (Nat.le_of_ble_eq_true rfl)
  rw [show entryFrame m args 5 = entryFrame m ([.ref (ad 1)] : List Value).toArray 5 from by rw [hav]]
  rw [lg_entry_eq]
  generalize (lg_sl ([.ref (ad 1)]) ++ List.replicate (5 - (lg_sl ([.ref (ad 1)])).length) Slot.unset).toArray = ls at hl ⊢
  have hl : lv_has ls 5 [(0, .ref (ad 1))] := hl
  show W p l e rmX6_firstSharedDrum s m args below meth c s.heap [] 0 0 _ _
  generalize MQ below (va_Qi post (xOut D KA layX stX ad ids) (xA ad ids s.heap.size)) args s 0 0 (xA ad ids s.heap.size) = Q at kr ⊢
  have blk6 : ∀ (n : Nat) (x1 : Int32) (x2 : Int32) (x3 : Int32) (σ : St) (H : Heap) (locs : List Loc) (ls : Array Slot), xW D KA layX stX ad ids (xA ad ids s.heap.size) s.heap σ H locs → lv_has ls 5 [(0, .ref (ad 1)), (1, .int x1), (2, .int x2), (3, .int x3)] → wX6_firstSharedDrum_6 ids post  n x1 x2 x3 σ → W p l e rmX6_firstSharedDrum s m args below meth c H locs 0 0 Q (F0 m 6 ls []) := by
    intro    n
    induction n with
    | zero => intro x1 x2 x3 σ H locs ls hW hl h; exact (h : False).elim
    | succ n ih =>
      intro x1 x2 x3 σ H locs ls hW hl h
      have hk6 : ∀ (x1 : Int32) (x2 : Int32) (x3 : Int32) (σ : St) (H : Heap) (locs : List Loc) (ls : Array Slot), xW D KA layX stX ad ids (xA ad ids s.heap.size) s.heap σ H locs → lv_has ls 5 [(0, .ref (ad 1)), (1, .int x1), (2, .int x2), (3, .int x3)] → (wX6_firstSharedDrum_6 ids post  n) x1 x2 x3 σ → W p l e rmX6_firstSharedDrum s m args below meth c H locs 0 0 Q (F0 m 6 ls []) := fun x1 x2 x3 σ H locs ls hW hl h => ih x1 x2 x3 σ H locs ls hW hl h
      rw [wX6_firstSharedDrum_6_s] at h
      try dsimp only at h
      generalize wX6_firstSharedDrum_6 ids post  n = k6 at h hk6
      refine lv_iload_n hx hb dX6_firstSharedDrum_6 rfl (lv_at hl 3 rfl) ?_
      refine lv_aload_n hx hb dX6_firstSharedDrum_7 rfl (lv_at hl 0 rfl) ?_
      refine xgX6_3 hx hb hts hown hK hW 1 hcX6_firstSharedDrum_X6 (hI 1 (by decide)) lX_1 (hts _ hwX6_firstSharedDrum_0) dX6_firstSharedDrum_8 ?_
      refine lv_icmp_ge (tgt := 57) hx hb dX6_firstSharedDrum_11 (by decide) (fun c1 => ?_) (fun c1 => ?_)
      · have h := h.1 c1
        refine lv_iload_n hx hb dX6_firstSharedDrum_57 rfl (lv_at hl 2 rfl) ?_
        refine x_calli (va_runSN (As := [.int x2]) (rest := []) ⟨hx, hb, hml, hown, hts⟩ (J_X11_lowestBit l hI h) ⟨va_cnB 1 hts gX6_firstSharedDrum_X11_lowestBit_n168 rfl rfl rfl (hK.2.2.1 (RX6, 168, yX11_lowestBit, RX11) List.mem_cons_self) (hts _ hwX6_firstSharedDrum_1) hdS_X11_lowestBit ⟨Nat.le_of_ble_eq_true rfl, Nat.le_of_ble_eq_true rfl⟩, (hts _ hwX6_firstSharedDrum_2), trivial⟩ (x_preS hK hZ hA hW) rfl rfl hl.1 rfl (lv_room (Nat.le_of_ble_eq_true rfl)) dX6_firstSharedDrum_58 ⟨Nat.zero_le _, Nat.zero_le _⟩) hW hA (fun r3 σ2 H locs h hW => ?_)
        try dsimp only at h
        exact kr _ _ _ _ _ _ hW h dX6_firstSharedDrum_61
      · have h := h.2 c1
        refine lv_iconst (v := 1) hx hb dX6_firstSharedDrum_14 (by decide) ?_
        refine lv_aload_n hx hb dX6_firstSharedDrum_15 rfl (lv_at hl 0 rfl) ?_
        refine xgX6_12r hx hb hts hown hK hW 1 hcX6_firstSharedDrum_X6 (hI 1 (by decide)) lX_1 (hts _ hwX6_firstSharedDrum_3) (sX_1_12 _) dX6_firstSharedDrum_16 ?_
        refine lv_iload_n hx hb dX6_firstSharedDrum_19 rfl (lv_at hl 3 rfl) ?_
        obtain ⟨hi4, h⟩ := h
        obtain ⟨o5, hr6, ok_o5, h⟩ := h
        refine x_ald hx hb hK hW 11 0 (hI 11 (by decide)) lX_11 rfl hi4 ((sX_11 _ _).trans hr6) dX6_firstSharedDrum_20 ?_
        refine xgB_4 hx hb hts hown hK hW o5 hBX6_firstSharedDrum ok_o5 (hts _ hwX6_firstSharedDrum_4) (fun _ h => h) dX6_firstSharedDrum_21 ?_
        refine lv_ishl hx hb dX6_firstSharedDrum_24 ?_
        refine lv_iconst (v := 1) hx hb dX6_firstSharedDrum_25 (by decide) ?_
        refine lv_aload_n hx hb dX6_firstSharedDrum_26 rfl (lv_at hl 0 rfl) ?_
        refine xgX6_12r hx hb hts hown hK hW 1 hcX6_firstSharedDrum_X6 (hI 1 (by decide)) lX_1 (hts _ hwX6_firstSharedDrum_3) (sX_1_12 _) dX6_firstSharedDrum_27 ?_
        refine lv_iload_n hx hb dX6_firstSharedDrum_30 rfl (lv_at hl 3 rfl) ?_
        obtain ⟨o8, hr9, ok_o8, h⟩ := h
        refine x_ald hx hb hK hW 11 0 (hI 11 (by decide)) lX_11 rfl hi4 ((sX_11 _ _).trans hr9) dX6_firstSharedDrum_31 ?_
        refine xgB_5 hx hb hts hown hK hW o8 hBX6_firstSharedDrum ok_o8 (hts _ hwX6_firstSharedDrum_5) (fun _ h => h) dX6_firstSharedDrum_32 ?_
        refine lv_ishl hx hb dX6_firstSharedDrum_35 ?_
        refine lv_ior hx hb dX6_firstSharedDrum_36 ?_
        refine lv_topi (fun v10 hv10 => ?_)
        have h := h v10 hv10
        refine lv_istore (lv' := [(4, .int v10), (0, .ref (ad 1)), (1, .int x1), (2, .int x2), (3, .int x3)]) hx hb dX6_firstSharedDrum_37 hl (by decide) rfl (fun ls hl => ?_)
        refine lv_iload_n hx hb dX6_firstSharedDrum_39 rfl (lv_at hl 3 rfl) ?_
        refine lv_iload_n hx hb dX6_firstSharedDrum_40 rfl (lv_at hl 2 rfl) ?_
        refine lv_iload hx hb dX6_firstSharedDrum_41 (lv_at hl 0 rfl) ?_
        refine lv_iand hx hb dX6_firstSharedDrum_43 ?_
        refine lv_ior hx hb dX6_firstSharedDrum_44 ?_
        refine lv_topi (fun v11 hv11 => ?_)
        have h := h v11 hv11
        refine lv_istore_n (lv' := [(2, .int v11), (4, .int v10), (0, .ref (ad 1)), (1, .int x1), (3, .int x3)]) hx hb dX6_firstSharedDrum_45 rfl hl (by decide) rfl (fun ls hl => ?_)
        refine lv_iload_n hx hb dX6_firstSharedDrum_46 rfl (lv_at hl 3 rfl) ?_
        refine lv_iload hx hb dX6_firstSharedDrum_47 (lv_at hl 1 rfl) ?_
        refine lv_ior hx hb dX6_firstSharedDrum_49 ?_
        refine lv_topi (fun v12 hv12 => ?_)
        have h := h v12 hv12
        refine lv_istore_n (lv' := [(1, .int v12), (2, .int v11), (4, .int v10), (0, .ref (ad 1)), (3, .int x3)]) hx hb dX6_firstSharedDrum_50 rfl hl (by decide) rfl (fun ls hl => ?_)
        obtain ⟨v13, hv13⟩ : ∃ y : Int32, y = x3 + (1 : Int32) := ⟨_, rfl⟩
        have h := h v13 hv13
        refine lv_iinc (v := v13) (lv' := [(3, .int v13), (1, .int v12), (2, .int v11), (4, .int v10), (0, .ref (ad 1))]) hx hb dX6_firstSharedDrum_51 hl (k := 4) rfl (by rw [hv13]; rfl) (by decide) rfl (fun ls hl => ?_)
        refine lv_goto (tgt := 6) hx hb dX6_firstSharedDrum_54 (by decide) ?_
        exact hk6 v12 v11 v13 _ _ _ _ hW (lv_sub hl [4, 1, 2, 0] rfl) h
  have main : ∀ (H : Heap) (locs : List Loc) (ls : Array Slot), xW D KA layX stX ad ids (xA ad ids s.heap.size) s.heap σ H locs → lv_has ls 5 [(0, .ref (ad 1))] → W p l e rmX6_firstSharedDrum s m args below meth c H locs 0 0 Q (F0 m 0 ls []) := by
    intro H locs ls hW hl
    unfold wX6_firstSharedDrum at h
    refine lv_iconst (v := 0) hx hb dX6_firstSharedDrum_0 (by decide) ?_
    refine lv_istore_n (lv' := [(1, .int (0 : Int32)), (0, .ref (ad 1))]) hx hb dX6_firstSharedDrum_1 rfl hl (by decide) rfl (fun ls hl => ?_)
    refine lv_iconst (v := 0) hx hb dX6_firstSharedDrum_2 (by decide) ?_
    refine lv_istore_n (lv' := [(2, .int (0 : Int32)), (1, .int (0 : Int32)), (0, .ref (ad 1))]) hx hb dX6_firstSharedDrum_3 rfl hl (by decide) rfl (fun ls hl => ?_)
    refine lv_iconst (v := 0) hx hb dX6_firstSharedDrum_4 (by decide) ?_
    refine lv_istore_n (lv' := [(3, .int (0 : Int32)), (2, .int (0 : Int32)), (1, .int (0 : Int32)), (0, .ref (ad 1))]) hx hb dX6_firstSharedDrum_5 rfl hl (by decide) rfl (fun ls hl => ?_)
    obtain ⟨n, h⟩ := h
    exact blk6    n (0 : Int32) (0 : Int32) (0 : Int32) _ _ _ _ hW (lv_sub hl [3, 2, 1, 0] rfl) h
  exact main _ _ _ hW hl
theorem hwX6_slips_0 : (.fieldLink RX6 151 "FortyBelts$Belt" "grip" "I" : Cond) ∈ wsX6_slips := (List.mem_cons_of_mem _ (List.mem_append_left _ (List.mem_append_left _ (List.mem_append_left _ (List.mem_append_left _ (List.mem_append_left _ (List.mem_append_left _ (List.mem_append_left _ (List.mem_append_left _ (List.mem_append_left _ (List.mem_of_getElem? (i := 0) rfl)))))))))))
theorem hwX6_slips_1 : (.code yX0_wrap cX0_wrap 1 (some .int) : Cond) ∈ wsX6_slips := (List.mem_cons_of_mem _ (List.mem_append_left _ (List.mem_append_left _ (List.mem_append_left _ (List.mem_append_left _ (List.mem_append_left _ (List.mem_append_left _ (List.mem_append_left _ (List.mem_append_left _ (List.mem_append_right _ (List.mem_append_right _ (List.mem_append_left _ (List.mem_of_getElem? (i := 0) rfl)))))))))))))
theorem hcX6_slips_X0 : ∀ w ∈ wsX00, w ∈ wsX6_slips := fun _ h => (List.mem_cons_of_mem _ (List.mem_append_left _ (List.mem_append_left _ (List.mem_append_left _ (List.mem_append_left _ (List.mem_append_left _ (List.mem_append_left _ (List.mem_append_left _ (List.mem_append_right _ h)))))))))
theorem hcX6_slips_X1 : ∀ w ∈ wsX10, w ∈ wsX6_slips := fun _ h => (List.mem_cons_of_mem _ (List.mem_append_left _ (List.mem_append_left _ (List.mem_append_left _ (List.mem_append_left _ (List.mem_append_left _ (List.mem_append_left _ (List.mem_append_right _ h))))))))
theorem hcX6_slips_X2 : ∀ w ∈ wsX20, w ∈ wsX6_slips := fun _ h => (List.mem_cons_of_mem _ (List.mem_append_left _ (List.mem_append_left _ (List.mem_append_left _ (List.mem_append_left _ (List.mem_append_left _ (List.mem_append_right _ h)))))))
theorem hcX6_slips_X3 : ∀ w ∈ wsX30, w ∈ wsX6_slips := fun _ h => (List.mem_cons_of_mem _ (List.mem_append_left _ (List.mem_append_left _ (List.mem_append_left _ (List.mem_append_left _ (List.mem_append_right _ h))))))
theorem hcX6_slips_X4 : ∀ w ∈ wsX40, w ∈ wsX6_slips := fun _ h => (List.mem_cons_of_mem _ (List.mem_append_left _ (List.mem_append_left _ (List.mem_append_left _ (List.mem_append_right _ h)))))
theorem hcX6_slips_X10 : ∀ w ∈ wsX100, w ∈ wsX6_slips := fun _ h => (List.mem_cons_of_mem _ (List.mem_append_left _ (List.mem_append_left _ (List.mem_append_right _ h))))
theorem hBX6_slips : xHB wsX6_slips := ⟨hcX6_slips_X0, hcX6_slips_X1, hcX6_slips_X2, hcX6_slips_X3, hcX6_slips_X4, hcX6_slips_X10⟩
set_option maxHeartbeats 4000000 in
set_option maxRecDepth 100000 in
theorem J_X6_slips {D : va_G} {KA : Nat → ClassId} {zs : ZS} {ad : Nat → Nat} {ids : List Nat} {sz : Nat} (l : Launch) (hI : ∀ c, c < 52 ∧ ¬ c = 19 → c ∈ ids) {a1 : Nat} (ok_a1 : okB ids a1) {σ : St} {post : Int32 → St → Prop} (h : wX6_slips ids a1 σ post) : Met l yX6_slips wsX6_slips rmX6_slips (va_Pc [.ref (ad 1), .ref (ad a1)] (xIn D KA zs layX stX ad ids sz σ)) (va_Qi post (xOut D KA layX stX ad ids) (xA ad ids sz)) 0 0 (xA ad ids sz) := by
  refine Met.ofW (cc := cX6_slips) (maxL := 2) (ret := (some .boolean)) (by decide) rfl ?_
  intro p e s m args below meth c s₁ B hml hv
  obtain ⟨hav, hsz, hK, hZ, hP, hD⟩ := hv
  have hx := B.exec
  have hb := B.bytes
  have hr := B.returns
  have hts := atoms_spec (ws := wsX6_slips) B.pre
  have hown : s.vm.findClass RX6 = some m.cls := findClass_of_methodNamed B.named
  have hlocks := B.notSynchronized
  subst hsz
  have hA : ∀ q : Nat, s.heap.size ≤ q → xA ad ids s.heap.size q := fun q h => Or.inr h
  have hW : xW D KA layX stX ad ids (xA ad ids s.heap.size) s.heap σ s.heap [] := ⟨hP, xA_D (D := D) hD, va_S.rf⟩
  have kr : ∀ (v : Int32) (σ : St) (H : Heap) (locs : List Loc) (ls : Array Slot) (pc : Nat), xW D KA layX stX ad ids (xA ad ids s.heap.size) s.heap σ H locs → isB v → post v σ → decode cX6_slips pc = .ok (.ireturn, 1) → W p l e rmX6_slips s m args below meth c H locs 0 0 (MQ below (va_Qi post (xOut D KA layX stX ad ids) (xA ad ids s.heap.size)) args s 0 0 (xA ad ids s.heap.size)) (F0 m pc ls [.int v]) := fun v σ H locs ls pc hW hz h hd => x_zret hx hb hr hlocks hW hz h hd
  have hl := lv_entry ([.ref (ad 1), .ref (ad a1)]) (n := 2) (Nat.le_of_ble_eq_true rfl)
  rw [show entryFrame m args 2 = entryFrame m ([.ref (ad 1), .ref (ad a1)] : List Value).toArray 2 from by rw [hav]]
  rw [lg_entry_eq]
  generalize (lg_sl ([.ref (ad 1), .ref (ad a1)]) ++ List.replicate (2 - (lg_sl ([.ref (ad 1), .ref (ad a1)])).length) Slot.unset).toArray = ls at hl ⊢
  have hl : lv_has ls 2 [(0, .ref (ad 1)), (1, .ref (ad a1))] := hl
  show W p l e rmX6_slips s m args below meth c s.heap [] 0 0 _ _
  generalize MQ below (va_Qi post (xOut D KA layX stX ad ids) (xA ad ids s.heap.size)) args s 0 0 (xA ad ids s.heap.size) = Q at kr ⊢
  have blk25 : ∀ (s0 : Int32) (σ : St) (H : Heap) (locs : List Loc) (ls : Array Slot), xW D KA layX stX ad ids (xA ad ids s.heap.size) s.heap σ H locs → lv_has ls 2 [] → wX6_slips_25 ids post s0 σ → W p l e rmX6_slips s m args below meth c H locs 0 0 Q (F0 m 25 ls [.int s0]) := by
    intro   s0 σ H locs ls hW hl h
    unfold wX6_slips_25 at h
    obtain ⟨hz1, h⟩ := h
    exact kr _ _ _ _ _ _ hW hz1 h dX6_slips_25
  have main : ∀ (H : Heap) (locs : List Loc) (ls : Array Slot), xW D KA layX stX ad ids (xA ad ids s.heap.size) s.heap σ H locs → lv_has ls 2 [(0, .ref (ad 1)), (1, .ref (ad a1))] → W p l e rmX6_slips s m args below meth c H locs 0 0 Q (F0 m 0 ls []) := by
    intro H locs ls hW hl
    unfold wX6_slips at h
    refine lv_aload_n hx hb dX6_slips_0 rfl (lv_at hl 0 rfl) ?_
    refine lv_aload_n hx hb dX6_slips_1 rfl (lv_at hl 1 rfl) ?_
    refine x_calli (va_runV (As := [.ref (ad a1)]) (rest := []) ⟨hx, hb, hml, hown, hts⟩ (J_X6_pull l hI ok_a1 h) (cwV 1 hts gX6_slips_X6_pull rfl rfl rfl hdV_X6_pull ⟨Nat.le_of_ble_eq_true rfl, Nat.le_of_ble_eq_true rfl⟩) (x_preV (ci := 6) hK hZ hA hW (hI 1 (by decide)) lX_1 rfl) rfl rfl hl.1 rfl (lv_room (Nat.le_of_ble_eq_true rfl)) dX6_slips_2 ⟨Nat.zero_le _, Nat.zero_le _⟩) hW hA (fun r1002 σ1001 H locs h hW => ?_)
    try dsimp only at h
    refine lv_aload_n hx hb dX6_slips_5 rfl (lv_at hl 1 rfl) ?_
    refine xgB_3 hx hb hts hown hK hW a1 hBX6_slips ok_a1 (hts _ hwX6_slips_0) (fun _ h => h) dX6_slips_6 ?_
    refine lv_aload_n hx hb dX6_slips_9 rfl (lv_at hl 1 rfl) ?_
    have hr1003 : ∀ post : Int32 → St → Prop, wB_wrap ids a1 σ1001 post → va_Run p l e rmX6_slips s m args below meth c H locs 0 0 0 0 (F0 m 10 ls ([].reverse ++ .ref (ad a1) :: [.int (gI σ1001 a1 3), .int r1002])) [.int (gI σ1001 a1 3), .int r1002] (va_Qi post (xOut D KA layX stX ad ids) (xA ad ids H.size) (Value.ref (ad a1) :: []).toArray) (xA ad ids H.size) := by
      intro post h
      unfold wB_wrap at h
      rcases (okB_cases ok_a1) with hq | hq | hq | hq | hq | hq
      · exact va_runV (As := []) (rest := [.int (gI σ1001 a1 3), .int r1002]) ⟨hx, hb, hml, hown, hts⟩ (J_X0_wrap l hI ok_a1 (h.1 (Or.inl hq))) (cwV 0 hts gX6_slips_X0_wrap rfl rfl rfl hdV_X0_wrap ⟨Nat.le_of_ble_eq_true rfl, Nat.le_of_ble_eq_true rfl⟩) (x_preV (ci := 0) hK hZ hA hW ok_a1.1 (lay_okB0 ok_a1 hq) rfl) rfl rfl hl.1 rfl (lv_room (Nat.le_of_ble_eq_true rfl)) dX6_slips_10 ⟨Nat.zero_le _, Nat.zero_le _⟩
      · exact va_runU (As := []) (rest := [.int (gI σ1001 a1 3), .int r1002]) ⟨hx, hb, hml, hown, hts⟩ (J_X2_wrap l hI ok_a1 (h.2.1 hq)) (va_cwO 0 hts gX6_slips_X2_wrap_u154X2 rfl rfl rfl hwX6_slips_1 (by decide +kernel) ⟨Nat.le_of_ble_eq_true rfl, Nat.le_of_ble_eq_true rfl⟩) (x_preV (ci := 2) hK hZ hA hW ok_a1.1 (lay_okB1 ok_a1 hq) rfl) rfl rfl hl.1 rfl (lv_room (Nat.le_of_ble_eq_true rfl)) dX6_slips_10 ⟨Nat.zero_le _, Nat.zero_le _⟩
      · exact va_runU (As := []) (rest := [.int (gI σ1001 a1 3), .int r1002]) ⟨hx, hb, hml, hown, hts⟩ (J_X3_wrap l hI ok_a1 (h.2.2.1 hq)) (va_cwO 0 hts gX6_slips_X3_wrap_u154X3 rfl rfl rfl hwX6_slips_1 (by decide +kernel) ⟨Nat.le_of_ble_eq_true rfl, Nat.le_of_ble_eq_true rfl⟩) (x_preV (ci := 3) hK hZ hA hW ok_a1.1 (lay_okB2 ok_a1 hq) rfl) rfl rfl hl.1 rfl (lv_room (Nat.le_of_ble_eq_true rfl)) dX6_slips_10 ⟨Nat.zero_le _, Nat.zero_le _⟩
      · exact va_runU (As := []) (rest := [.int (gI σ1001 a1 3), .int r1002]) ⟨hx, hb, hml, hown, hts⟩ (J_X0_wrap l hI ok_a1 (h.1 (Or.inr hq))) (va_cwU 0 hts gX6_slips_X0_wrap_u154X1 rfl rfl rfl rfl (by decide +kernel) ⟨Nat.le_of_ble_eq_true rfl, Nat.le_of_ble_eq_true rfl⟩) (x_preV (ci := 1) hK hZ hA hW ok_a1.1 (lay_okB3 ok_a1 hq) rfl) rfl rfl hl.1 rfl (lv_room (Nat.le_of_ble_eq_true rfl)) dX6_slips_10 ⟨Nat.zero_le _, Nat.zero_le _⟩
      · exact va_runU (As := []) (rest := [.int (gI σ1001 a1 3), .int r1002]) ⟨hx, hb, hml, hown, hts⟩ (J_X4_wrap l hI ok_a1 (h.2.2.2.1 hq)) (va_cwO 0 hts gX6_slips_X4_wrap_u154X4 rfl rfl rfl hwX6_slips_1 (by decide +kernel) ⟨Nat.le_of_ble_eq_true rfl, Nat.le_of_ble_eq_true rfl⟩) (x_preV (ci := 4) hK hZ hA hW ok_a1.1 (lay_okB4 ok_a1 hq) rfl) rfl rfl hl.1 rfl (lv_room (Nat.le_of_ble_eq_true rfl)) dX6_slips_10 ⟨Nat.zero_le _, Nat.zero_le _⟩
      · exact va_runU (As := []) (rest := [.int (gI σ1001 a1 3), .int r1002]) ⟨hx, hb, hml, hown, hts⟩ (J_X10_wrap l hI ok_a1 (h.2.2.2.2 hq)) (va_cwO 0 hts gX6_slips_X10_wrap_u154X10 rfl rfl rfl hwX6_slips_1 (by decide +kernel) ⟨Nat.le_of_ble_eq_true rfl, Nat.le_of_ble_eq_true rfl⟩) (x_preV (ci := 10) hK hZ hA hW ok_a1.1 (lay_okB5 ok_a1 hq) rfl) rfl rfl hl.1 rfl (lv_room (Nat.le_of_ble_eq_true rfl)) dX6_slips_10 ⟨Nat.zero_le _, Nat.zero_le _⟩
    refine x_calli (hr1003 _ h) hW hA (fun r1005 σ1004 H locs h hW => ?_)
    try dsimp only at h
    refine lv_imul hx hb dX6_slips_13 ?_
    refine lv_bipush (v := 50) hx hb dX6_slips_14 (by decide) ?_
    refine lv_idiv hx hb dX6_slips_16 (by decide) ?_
    refine lv_icmp_le (tgt := 24) hx hb dX6_slips_17 (by decide) (fun c1006 => ?_) (fun c1006 => ?_)
    · have h := h.1 c1006
      refine lv_iconst (v := 0) hx hb dX6_slips_24 (by decide) ?_
      exact blk25   (0 : Int32) _ _ _ _ hW (lv_sub hl [] rfl) h
    · have h := h.2 c1006
      refine lv_iconst (v := 1) hx hb dX6_slips_20 (by decide) ?_
      refine lv_goto (tgt := 25) hx hb dX6_slips_21 (by decide) ?_
      exact blk25   (1 : Int32) _ _ _ _ hW (lv_sub hl [] rfl) h
  exact main _ _ _ hW hl
theorem hwX6_firstSlipping_0 : (.fieldLink RX6 65 "FortyBelts$Mill" "beltCount" "I" : Cond) ∈ wsX6_firstSlipping := (List.mem_cons_of_mem _ (List.mem_append_left _ (List.mem_append_left _ (List.mem_append_left _ (List.mem_append_left _ (List.mem_append_left _ (List.mem_append_left _ (List.mem_append_left _ (List.mem_append_left _ (List.mem_append_left _ (List.mem_of_getElem? (i := 0) rfl)))))))))))
theorem hwX6_firstSlipping_1 : (.fieldLink RX6 42 "FortyBelts$Mill" "belts" "[LFortyBelts$Belt;" : Cond) ∈ wsX6_firstSlipping := (List.mem_cons_of_mem _ (List.mem_append_left _ (List.mem_append_left _ (List.mem_append_left _ (List.mem_append_left _ (List.mem_append_left _ (List.mem_append_left _ (List.mem_append_left _ (List.mem_append_left _ (List.mem_append_left _ (List.mem_of_getElem? (i := 1) rfl)))))))))))
theorem hcX6_firstSlipping_X6 : ∀ w ∈ wsX60, w ∈ wsX6_firstSlipping := fun _ h => (List.mem_cons_of_mem _ (List.mem_append_left _ (List.mem_append_left _ (List.mem_append_left _ (List.mem_append_left _ (List.mem_append_left _ (List.mem_append_left _ (List.mem_append_left _ (List.mem_append_right _ h)))))))))
set_option maxHeartbeats 4000000 in
set_option maxRecDepth 100000 in
theorem J_X6_firstSlipping {D : va_G} {KA : Nat → ClassId} {zs : ZS} {ad : Nat → Nat} {ids : List Nat} {sz : Nat} (l : Launch) (hI : ∀ c, c < 52 ∧ ¬ c = 19 → c ∈ ids)   {σ : St} {post : Int32 → St → Prop} (h : wX6_firstSlipping ids  σ post) : Met l yX6_firstSlipping wsX6_firstSlipping rmX6_firstSlipping (va_Pc [.ref (ad 1)] (xIn D KA zs layX stX ad ids sz σ)) (va_Qi post (xOut D KA layX stX ad ids) (xA ad ids sz)) 0 0 (xA ad ids sz) := by
  refine Met.ofW (cc := cX6_firstSlipping) (maxL := 2) (ret := (some .int)) (by decide) rfl ?_
  intro p e s m args below meth c s₁ B hml hv
  obtain ⟨hav, hsz, hK, hZ, hP, hD⟩ := hv
  have hx := B.exec
  have hb := B.bytes
  have hr := B.returns
  have hts := atoms_spec (ws := wsX6_firstSlipping) B.pre
  have hown : s.vm.findClass RX6 = some m.cls := findClass_of_methodNamed B.named
  have hlocks := B.notSynchronized
  subst hsz
  have hA : ∀ q : Nat, s.heap.size ≤ q → xA ad ids s.heap.size q := fun q h => Or.inr h
  have hW : xW D KA layX stX ad ids (xA ad ids s.heap.size) s.heap σ s.heap [] := ⟨hP, xA_D (D := D) hD, va_S.rf⟩
  have kr : ∀ (v : Int32) (σ : St) (H : Heap) (locs : List Loc) (ls : Array Slot) (pc : Nat), xW D KA layX stX ad ids (xA ad ids s.heap.size) s.heap σ H locs → post v σ → decode cX6_firstSlipping pc = .ok (.ireturn, 1) → W p l e rmX6_firstSlipping s m args below meth c H locs 0 0 (MQ below (va_Qi post (xOut D KA layX stX ad ids) (xA ad ids s.heap.size)) args s 0 0 (xA ad ids s.heap.size)) (F0 m pc ls [.int v]) := fun v σ H locs ls pc hW h hd => x_iret hx hb hr hlocks hW h hd
  have hl := lv_entry ([.ref (ad 1)]) (n := 2) (Nat.le_of_ble_eq_true rfl)
  rw [show entryFrame m args 2 = entryFrame m ([.ref (ad 1)] : List Value).toArray 2 from by rw [hav]]
  rw [lg_entry_eq]
  generalize (lg_sl ([.ref (ad 1)]) ++ List.replicate (2 - (lg_sl ([.ref (ad 1)])).length) Slot.unset).toArray = ls at hl ⊢
  have hl : lv_has ls 2 [(0, .ref (ad 1))] := hl
  show W p l e rmX6_firstSlipping s m args below meth c s.heap [] 0 0 _ _
  generalize MQ below (va_Qi post (xOut D KA layX stX ad ids) (xA ad ids s.heap.size)) args s 0 0 (xA ad ids s.heap.size) = Q at kr ⊢
  have blk2 : ∀ (n : Nat) (x1 : Int32) (σ : St) (H : Heap) (locs : List Loc) (ls : Array Slot), xW D KA layX stX ad ids (xA ad ids s.heap.size) s.heap σ H locs → lv_has ls 2 [(0, .ref (ad 1)), (1, .int x1)] → wX6_firstSlipping_2 ids post  n x1 σ → W p l e rmX6_firstSlipping s m args below meth c H locs 0 0 Q (F0 m 2 ls []) := by
    intro    n
    induction n with
    | zero => intro x1 σ H locs ls hW hl h; exact (h : False).elim
    | succ n ih =>
      intro x1 σ H locs ls hW hl h
      have hk2 : ∀ (x1 : Int32) (σ : St) (H : Heap) (locs : List Loc) (ls : Array Slot), xW D KA layX stX ad ids (xA ad ids s.heap.size) s.heap σ H locs → lv_has ls 2 [(0, .ref (ad 1)), (1, .int x1)] → (wX6_firstSlipping_2 ids post  n) x1 σ → W p l e rmX6_firstSlipping s m args below meth c H locs 0 0 Q (F0 m 2 ls []) := fun x1 σ H locs ls hW hl h => ih x1 σ H locs ls hW hl h
      rw [wX6_firstSlipping_2_s] at h
      try dsimp only at h
      generalize wX6_firstSlipping_2 ids post  n = k2 at h hk2
      refine lv_iload_n hx hb dX6_firstSlipping_2 rfl (lv_at hl 1 rfl) ?_
      refine lv_aload_n hx hb dX6_firstSlipping_3 rfl (lv_at hl 0 rfl) ?_
      refine xgX6_3 hx hb hts hown hK hW 1 hcX6_firstSlipping_X6 (hI 1 (by decide)) lX_1 (hts _ hwX6_firstSlipping_0) dX6_firstSlipping_4 ?_
      refine lv_icmp_ge (tgt := 31) hx hb dX6_firstSlipping_7 (by decide) (fun c1 => ?_) (fun c1 => ?_)
      · have h := h.1 c1
        refine lv_iconst (v := (-1)) hx hb dX6_firstSlipping_31 (by decide) ?_
        exact kr _ _ _ _ _ _ hW h dX6_firstSlipping_32
      · have h := h.2 c1
        refine lv_aload_n hx hb dX6_firstSlipping_10 rfl (lv_at hl 0 rfl) ?_
        refine lv_aload_n hx hb dX6_firstSlipping_11 rfl (lv_at hl 0 rfl) ?_
        refine xgX6_12r hx hb hts hown hK hW 1 hcX6_firstSlipping_X6 (hI 1 (by decide)) lX_1 (hts _ hwX6_firstSlipping_1) (sX_1_12 _) dX6_firstSlipping_12 ?_
        refine lv_iload_n hx hb dX6_firstSlipping_15 rfl (lv_at hl 1 rfl) ?_
        obtain ⟨hi2, h⟩ := h
        obtain ⟨o3, hr4, ok_o3, h⟩ := h
        refine x_ald hx hb hK hW 11 0 (hI 11 (by decide)) lX_11 rfl hi2 ((sX_11 _ _).trans hr4) dX6_firstSlipping_16 ?_
        refine x_calli (va_runV (As := [.ref (ad o3)]) (rest := []) ⟨hx, hb, hml, hown, hts⟩ (J_X6_slips l hI ok_o3 h) (cwV 1 hts gX6_firstSlipping_X6_slips rfl rfl rfl hdV_X6_slips ⟨Nat.le_of_ble_eq_true rfl, Nat.le_of_ble_eq_true rfl⟩) (x_preV (ci := 6) hK hZ hA hW (hI 1 (by decide)) lX_1 rfl) rfl rfl hl.1 rfl (lv_room (Nat.le_of_ble_eq_true rfl)) dX6_firstSlipping_17 ⟨Nat.zero_le _, Nat.zero_le _⟩) hW hA (fun r6 σ5 H locs h hW => ?_)
        try dsimp only at h
        refine lv_if_eq (tgt := 25) hx hb dX6_firstSlipping_20 (by decide) (fun c7 => ?_) (fun c7 => ?_)
        · have h := h.1 c7
          obtain ⟨v8, hv8⟩ : ∃ y : Int32, y = x1 + (1 : Int32) := ⟨_, rfl⟩
          have h := h v8 hv8
          refine lv_iinc (v := v8) (lv' := [(1, .int v8), (0, .ref (ad 1))]) hx hb dX6_firstSlipping_25 hl (k := 1) rfl (by rw [hv8]; rfl) (by decide) rfl (fun ls hl => ?_)
          refine lv_goto (tgt := 2) hx hb dX6_firstSlipping_28 (by decide) ?_
          exact hk2 v8 _ _ _ _ hW (lv_sub hl [1, 0] rfl) h
        · have h := h.2 c7
          refine lv_iload_n hx hb dX6_firstSlipping_23 rfl (lv_at hl 1 rfl) ?_
          exact kr _ _ _ _ _ _ hW h dX6_firstSlipping_24
  have main : ∀ (H : Heap) (locs : List Loc) (ls : Array Slot), xW D KA layX stX ad ids (xA ad ids s.heap.size) s.heap σ H locs → lv_has ls 2 [(0, .ref (ad 1))] → W p l e rmX6_firstSlipping s m args below meth c H locs 0 0 Q (F0 m 0 ls []) := by
    intro H locs ls hW hl
    unfold wX6_firstSlipping at h
    refine lv_iconst (v := 0) hx hb dX6_firstSlipping_0 (by decide) ?_
    refine lv_istore_n (lv' := [(1, .int (0 : Int32)), (0, .ref (ad 1))]) hx hb dX6_firstSlipping_1 rfl hl (by decide) rfl (fun ls hl => ?_)
    obtain ⟨n, h⟩ := h
    exact blk2    n (0 : Int32) _ _ _ _ hW (lv_sub hl [1, 0] rfl) h
  exact main _ _ _ hW hl
theorem hwX11_judge_0 : (.fieldLink RX11 10 "FortyBelts" "mill" "LFortyBelts$Mill;" : Cond) ∈ wsX11_judge := (List.mem_cons_of_mem _ (List.mem_append_left _ (List.mem_append_left _ (List.mem_append_left _ (List.mem_append_left _ (List.mem_append_left _ (List.mem_append_left _ (List.mem_append_left _ (List.mem_append_left _ (List.mem_append_left _ (List.mem_append_left _ (List.mem_of_getElem? (i := 0) rfl))))))))))))
theorem hwX11_judge_1 : (.fieldLink RX11 92 "FortyBelts$Mill" "machineCount" "I" : Cond) ∈ wsX11_judge := (List.mem_cons_of_mem _ (List.mem_append_left _ (List.mem_append_left _ (List.mem_append_left _ (List.mem_append_left _ (List.mem_append_left _ (List.mem_append_left _ (List.mem_append_left _ (List.mem_append_left _ (List.mem_append_left _ (List.mem_append_left _ (List.mem_of_getElem? (i := 1) rfl))))))))))))
theorem hwX11_judge_2 : (.fieldLink RX11 85 "FortyBelts$Mill" "power" "I" : Cond) ∈ wsX11_judge := (List.mem_cons_of_mem _ (List.mem_append_left _ (List.mem_append_left _ (List.mem_append_left _ (List.mem_append_left _ (List.mem_append_left _ (List.mem_append_left _ (List.mem_append_left _ (List.mem_append_left _ (List.mem_append_left _ (List.mem_append_left _ (List.mem_of_getElem? (i := 2) rfl))))))))))))
theorem hcX11_judge_X11 : ∀ w ∈ wsX110, w ∈ wsX11_judge := fun _ h => (List.mem_cons_of_mem _ (List.mem_append_left _ (List.mem_append_left _ (List.mem_append_left _ (List.mem_append_left _ (List.mem_append_left _ (List.mem_append_left _ (List.mem_append_left _ (List.mem_append_left _ (List.mem_append_right _ h))))))))))
theorem hcX11_judge_X6 : ∀ w ∈ wsX60, w ∈ wsX11_judge := fun _ h => (List.mem_cons_of_mem _ (List.mem_append_left _ (List.mem_append_left _ (List.mem_append_left _ (List.mem_append_left _ (List.mem_append_left _ (List.mem_append_left _ (List.mem_append_left _ (List.mem_append_right _ h)))))))))
set_option maxHeartbeats 4000000 in
set_option maxRecDepth 100000 in
theorem J_X11_judge {D : va_G} {KA : Nat → ClassId} {zs : ZS} {ad : Nat → Nat} {ids : List Nat} {sz : Nat} (l : Launch) (hI : ∀ c, c < 52 ∧ ¬ c = 19 → c ∈ ids)   {σ : St} {post : Int32 → St → Prop} (h : wX11_judge ids  σ post) : Met l yX11_judge wsX11_judge rmX11_judge (va_Pc [.ref (ad 0)] (xIn D KA zs layX stX ad ids sz σ)) (va_Qi post (xOut D KA layX stX ad ids) (xA ad ids sz)) 0 0 (xA ad ids sz) := by
  refine Met.ofW (cc := cX11_judge) (maxL := 5) (ret := (some .int)) (by decide) rfl ?_
  intro p e s m args below meth c s₁ B hml hv
  obtain ⟨hav, hsz, hK, hZ, hP, hD⟩ := hv
  have hx := B.exec
  have hb := B.bytes
  have hr := B.returns
  have hts := atoms_spec (ws := wsX11_judge) B.pre
  have hown : s.vm.findClass RX11 = some m.cls := findClass_of_methodNamed B.named
  have hlocks := B.notSynchronized
  subst hsz
  have hA : ∀ q : Nat, s.heap.size ≤ q → xA ad ids s.heap.size q := fun q h => Or.inr h
  have hW : xW D KA layX stX ad ids (xA ad ids s.heap.size) s.heap σ s.heap [] := ⟨hP, xA_D (D := D) hD, va_S.rf⟩
  have kr : ∀ (v : Int32) (σ : St) (H : Heap) (locs : List Loc) (ls : Array Slot) (pc : Nat), xW D KA layX stX ad ids (xA ad ids s.heap.size) s.heap σ H locs → post v σ → decode cX11_judge pc = .ok (.ireturn, 1) → W p l e rmX11_judge s m args below meth c H locs 0 0 (MQ below (va_Qi post (xOut D KA layX stX ad ids) (xA ad ids s.heap.size)) args s 0 0 (xA ad ids s.heap.size)) (F0 m pc ls [.int v]) := fun v σ H locs ls pc hW h hd => x_iret hx hb hr hlocks hW h hd
  have hl := lv_entry ([.ref (ad 0)]) (n := 5) (Nat.le_of_ble_eq_true rfl)
  rw [show entryFrame m args 5 = entryFrame m ([.ref (ad 0)] : List Value).toArray 5 from by rw [hav]]
  rw [lg_entry_eq]
  generalize (lg_sl ([.ref (ad 0)]) ++ List.replicate (5 - (lg_sl ([.ref (ad 0)])).length) Slot.unset).toArray = ls at hl ⊢
  have hl : lv_has ls 5 [(0, .ref (ad 0))] := hl
  show W p l e rmX11_judge s m args below meth c s.heap [] 0 0 _ _
  generalize MQ below (va_Qi post (xOut D KA layX stX ad ids) (xA ad ids s.heap.size)) args s 0 0 (xA ad ids s.heap.size) = Q at kr ⊢
  have blk121 : ∀ (s0 : Int32) (σ : St) (H : Heap) (locs : List Loc) (ls : Array Slot), xW D KA layX stX ad ids (xA ad ids s.heap.size) s.heap σ H locs → lv_has ls 5 [] → wX11_judge_121 ids post s0 σ → W p l e rmX11_judge s m args below meth c H locs 0 0 Q (F0 m 121 ls [.int s0]) := by
    intro   s0 σ H locs ls hW hl h
    unfold wX11_judge_121 at h
    exact kr _ _ _ _ _ _ hW h dX11_judge_121
  have main : ∀ (H : Heap) (locs : List Loc) (ls : Array Slot), xW D KA layX stX ad ids (xA ad ids s.heap.size) s.heap σ H locs → lv_has ls 5 [(0, .ref (ad 0))] → W p l e rmX11_judge s m args below meth c H locs 0 0 Q (F0 m 0 ls []) := by
    intro H locs ls hW hl
    unfold wX11_judge at h
    refine lv_aload_n hx hb dX11_judge_0 rfl (lv_at hl 0 rfl) ?_
    refine xgX11_0r hx hb hts hown hK hW 0 hcX11_judge_X11 (hI 0 (by decide)) lX_0 (hts _ hwX11_judge_0) (sX_0_0 _) dX11_judge_1 ?_
    refine x_callv (va_runV (As := []) (rest := []) ⟨hx, hb, hml, hown, hts⟩ (J_X6_spin l hI h) (cwV 0 hts gX11_judge_X6_spin rfl rfl rfl hdV_X6_spin ⟨Nat.le_of_ble_eq_true rfl, Nat.le_of_ble_eq_true rfl⟩) (x_preV (ci := 6) hK hZ hA hW (hI 1 (by decide)) lX_1 rfl) rfl rfl hl.1 rfl (lv_room (Nat.le_of_ble_eq_true rfl)) dX11_judge_4 ⟨Nat.zero_le _, Nat.zero_le _⟩) hW hA (fun σ1001 H locs h hW => ?_)
    try dsimp only at h
    refine lv_aload_n hx hb dX11_judge_7 rfl (lv_at hl 0 rfl) ?_
    refine xgX11_0r hx hb hts hown hK hW 0 hcX11_judge_X11 (hI 0 (by decide)) lX_0 (hts _ hwX11_judge_0) (sX_0_0 _) dX11_judge_8 ?_
    refine x_calli (va_runV (As := []) (rest := []) ⟨hx, hb, hml, hown, hts⟩ (J_X6_wellRunning l hI h) (cwV 0 hts gX11_judge_X6_wellRunning rfl rfl rfl hdV_X6_wellRunning ⟨Nat.le_of_ble_eq_true rfl, Nat.le_of_ble_eq_true rfl⟩) (x_preV (ci := 6) hK hZ hA hW (hI 1 (by decide)) lX_1 rfl) rfl rfl hl.1 rfl (lv_room (Nat.le_of_ble_eq_true rfl)) dX11_judge_11 ⟨Nat.zero_le _, Nat.zero_le _⟩) hW hA (fun r1003 σ1002 H locs h hW => ?_)
    try dsimp only at h
    refine lv_iconst (v := (-1)) hx hb dX11_judge_14 (by decide) ?_
    refine lv_ixor hx hb dX11_judge_15 ?_
    refine x_calli (va_runS (As := [.int (r1003 ^^^ (-1 : Int32))]) (rest := []) ⟨hx, hb, hml, hown, hts⟩ (J_X11_lowestBit l hI h) (va_cwS 1 hts gX11_judge_X11_lowestBit rfl rfl rfl hdS_X11_lowestBit ⟨Nat.le_of_ble_eq_true rfl, Nat.le_of_ble_eq_true rfl⟩) (x_preS hK hZ hA hW) rfl rfl hl.1 rfl (lv_room (Nat.le_of_ble_eq_true rfl)) dX11_judge_16 ⟨Nat.zero_le _, Nat.zero_le _⟩) hW hA (fun r1005 σ1004 H locs h hW => ?_)
    try dsimp only at h
    refine lv_istore_n (lv' := [(1, .int r1005), (0, .ref (ad 0))]) hx hb dX11_judge_19 rfl hl (by decide) rfl (fun ls hl => ?_)
    refine lv_iload_n hx hb dX11_judge_20 rfl (lv_at hl 0 rfl) ?_
    refine lv_aload_n hx hb dX11_judge_21 rfl (lv_at hl 1 rfl) ?_
    refine xgX11_0r hx hb hts hown hK hW 0 hcX11_judge_X11 (hI 0 (by decide)) lX_0 (hts _ hwX11_judge_0) (sX_0_0 _) dX11_judge_22 ?_
    refine xgX6_1 hx hb hts hown hK hW 1 hcX11_judge_X6 (hI 1 (by decide)) lX_1 (hts _ hwX11_judge_1) dX11_judge_25 ?_
    refine lv_icmp_ge (tgt := 37) hx hb dX11_judge_28 (by decide) (fun c1006 => ?_) (fun c1006 => ?_)
    · have h := h.1 c1006
      refine lv_aload_n hx hb dX11_judge_37 rfl (lv_at hl 1 rfl) ?_
      refine xgX11_0r hx hb hts hown hK hW 0 hcX11_judge_X11 (hI 0 (by decide)) lX_0 (hts _ hwX11_judge_0) (sX_0_0 _) dX11_judge_38 ?_
      refine x_calli (va_runV (As := []) (rest := []) ⟨hx, hb, hml, hown, hts⟩ (J_X6_firstSlipping l hI h) (cwV 0 hts gX11_judge_X6_firstSlipping rfl rfl rfl hdV_X6_firstSlipping ⟨Nat.le_of_ble_eq_true rfl, Nat.le_of_ble_eq_true rfl⟩) (x_preV (ci := 6) hK hZ hA hW (hI 1 (by decide)) lX_1 rfl) rfl rfl hl.1 rfl (lv_room (Nat.le_of_ble_eq_true rfl)) dX11_judge_41 ⟨Nat.zero_le _, Nat.zero_le _⟩) hW hA (fun r1008 σ1007 H locs h hW => ?_)
      try dsimp only at h
      refine lv_istore_n (lv' := [(2, .int r1008), (1, .int r1005), (0, .ref (ad 0))]) hx hb dX11_judge_44 rfl hl (by decide) rfl (fun ls hl => ?_)
      refine lv_iload_n hx hb dX11_judge_45 rfl (lv_at hl 0 rfl) ?_
      refine lv_iconst (v := (-1)) hx hb dX11_judge_46 (by decide) ?_
      refine lv_icmp_eq (tgt := 56) hx hb dX11_judge_47 (by decide) (fun c1009 => ?_) (fun c1009 => ?_)
      · have h := h.1 c1009
        refine lv_aload_n hx hb dX11_judge_56 rfl (lv_at hl 2 rfl) ?_
        refine xgX11_0r hx hb hts hown hK hW 0 hcX11_judge_X11 (hI 0 (by decide)) lX_0 (hts _ hwX11_judge_0) (sX_0_0 _) dX11_judge_57 ?_
        refine x_calli (va_runV (As := []) (rest := []) ⟨hx, hb, hml, hown, hts⟩ (J_X6_firstBent l hI h) (cwV 0 hts gX11_judge_X6_firstBent rfl rfl rfl hdV_X6_firstBent ⟨Nat.le_of_ble_eq_true rfl, Nat.le_of_ble_eq_true rfl⟩) (x_preV (ci := 6) hK hZ hA hW (hI 1 (by decide)) lX_1 rfl) rfl rfl hl.1 rfl (lv_room (Nat.le_of_ble_eq_true rfl)) dX11_judge_60 ⟨Nat.zero_le _, Nat.zero_le _⟩) hW hA (fun r1011 σ1010 H locs h hW => ?_)
        try dsimp only at h
        refine lv_istore_n (lv' := [(3, .int r1011), (2, .int r1008), (1, .int r1005), (0, .ref (ad 0))]) hx hb dX11_judge_63 rfl hl (by decide) rfl (fun ls hl => ?_)
        refine lv_iload_n hx hb dX11_judge_64 rfl (lv_at hl 0 rfl) ?_
        refine lv_iconst (v := (-1)) hx hb dX11_judge_65 (by decide) ?_
        refine lv_icmp_eq (tgt := 75) hx hb dX11_judge_66 (by decide) (fun c1012 => ?_) (fun c1012 => ?_)
        · have h := h.1 c1012
          refine lv_aload_n hx hb dX11_judge_75 rfl (lv_at hl 3 rfl) ?_
          refine xgX11_0r hx hb hts hown hK hW 0 hcX11_judge_X11 (hI 0 (by decide)) lX_0 (hts _ hwX11_judge_0) (sX_0_0 _) dX11_judge_76 ?_
          refine x_calli (va_runV (As := []) (rest := []) ⟨hx, hb, hml, hown, hts⟩ (J_X6_firstSharedDrum l hI h) (cwV 0 hts gX11_judge_X6_firstSharedDrum rfl rfl rfl hdV_X6_firstSharedDrum ⟨Nat.le_of_ble_eq_true rfl, Nat.le_of_ble_eq_true rfl⟩) (x_preV (ci := 6) hK hZ hA hW (hI 1 (by decide)) lX_1 rfl) rfl rfl hl.1 rfl (lv_room (Nat.le_of_ble_eq_true rfl)) dX11_judge_79 ⟨Nat.zero_le _, Nat.zero_le _⟩) hW hA (fun r1014 σ1013 H locs h hW => ?_)
          try dsimp only at h
          refine lv_istore (lv' := [(4, .int r1014), (3, .int r1011), (2, .int r1008), (1, .int r1005), (0, .ref (ad 0))]) hx hb dX11_judge_82 hl (by decide) rfl (fun ls hl => ?_)
          refine lv_iload hx hb dX11_judge_84 (lv_at hl 0 rfl) ?_
          refine lv_iconst (v := (-1)) hx hb dX11_judge_86 (by decide) ?_
          refine lv_icmp_eq (tgt := 97) hx hb dX11_judge_87 (by decide) (fun c1015 => ?_) (fun c1015 => ?_)
          · have h := h.1 c1015
            refine lv_aload_n hx hb dX11_judge_97 rfl (lv_at hl 4 rfl) ?_
            refine xgX11_0r hx hb hts hown hK hW 0 hcX11_judge_X11 (hI 0 (by decide)) lX_0 (hts _ hwX11_judge_0) (sX_0_0 _) dX11_judge_98 ?_
            refine x_calli (va_runV (As := []) (rest := []) ⟨hx, hb, hml, hown, hts⟩ (J_X6_loadedInAll l hI h) (cwV 0 hts gX11_judge_X6_loadedInAll rfl rfl rfl hdV_X6_loadedInAll ⟨Nat.le_of_ble_eq_true rfl, Nat.le_of_ble_eq_true rfl⟩) (x_preV (ci := 6) hK hZ hA hW (hI 1 (by decide)) lX_1 rfl) rfl rfl hl.1 rfl (lv_room (Nat.le_of_ble_eq_true rfl)) dX11_judge_101 ⟨Nat.zero_le _, Nat.zero_le _⟩) hW hA (fun r1017 σ1016 H locs h hW => ?_)
            try dsimp only at h
            refine lv_aload_n hx hb dX11_judge_104 rfl (lv_at hl 4 rfl) ?_
            refine xgX11_0r hx hb hts hown hK hW 0 hcX11_judge_X11 (hI 0 (by decide)) lX_0 (hts _ hwX11_judge_0) (sX_0_0 _) dX11_judge_105 ?_
            refine xgX6_15 hx hb hts hown hK hW 1 hcX11_judge_X6 (hI 1 (by decide)) lX_1 (hts _ hwX11_judge_2) dX11_judge_108 ?_
            refine lv_icmp_le (tgt := 120) hx hb dX11_judge_111 (by decide) (fun c1018 => ?_) (fun c1018 => ?_)
            · have h := h.1 c1018
              refine lv_iconst (v := (-1)) hx hb dX11_judge_120 (by decide) ?_
              exact blk121   (-1 : Int32) _ _ _ _ hW (lv_sub hl [] rfl) h
            · have h := h.2 c1018
              refine lv_sipush (v := 5000) hx hb dX11_judge_114 (by decide) ?_
              refine lv_goto (tgt := 121) hx hb dX11_judge_117 (by decide) ?_
              exact blk121   (5000 : Int32) _ _ _ _ hW (lv_sub hl [] rfl) h
          · have h := h.2 c1015
            refine lv_sipush (v := 4000) hx hb dX11_judge_90 (by decide) ?_
            refine lv_iload hx hb dX11_judge_93 (lv_at hl 0 rfl) ?_
            refine lv_iadd hx hb dX11_judge_95 ?_
            exact kr _ _ _ _ _ _ hW h dX11_judge_96
        · have h := h.2 c1012
          refine lv_sipush (v := 3000) hx hb dX11_judge_69 (by decide) ?_
          refine lv_iload_n hx hb dX11_judge_72 rfl (lv_at hl 0 rfl) ?_
          refine lv_iadd hx hb dX11_judge_73 ?_
          exact kr _ _ _ _ _ _ hW h dX11_judge_74
      · have h := h.2 c1009
        refine lv_sipush (v := 2000) hx hb dX11_judge_50 (by decide) ?_
        refine lv_iload_n hx hb dX11_judge_53 rfl (lv_at hl 0 rfl) ?_
        refine lv_iadd hx hb dX11_judge_54 ?_
        exact kr _ _ _ _ _ _ hW h dX11_judge_55
    · have h := h.2 c1006
      refine lv_sipush (v := 1000) hx hb dX11_judge_31 (by decide) ?_
      refine lv_iload_n hx hb dX11_judge_34 rfl (lv_at hl 0 rfl) ?_
      refine lv_iadd hx hb dX11_judge_35 ?_
      exact kr _ _ _ _ _ _ hW h dX11_judge_36
  exact main _ _ _ hW hl
theorem hwX11_lay_0 : (.fieldLink RX11 268 "FortyBelts" "chosenChanged" "I" : Cond) ∈ wsX11_lay := (List.mem_cons_of_mem _ (List.mem_append_left _ (List.mem_append_left _ (List.mem_append_left _ (List.mem_append_left _ (List.mem_append_left _ (List.mem_append_left _ (List.mem_append_left _ (List.mem_append_left _ (List.mem_append_left _ (List.mem_append_left _ (List.mem_of_getElem? (i := 3) rfl))))))))))))
theorem hwX11_lay_1 : (.fieldLink RX11 10 "FortyBelts" "mill" "LFortyBelts$Mill;" : Cond) ∈ wsX11_lay := (List.mem_cons_of_mem _ (List.mem_append_left _ (List.mem_append_left _ (List.mem_append_left _ (List.mem_append_left _ (List.mem_append_left _ (List.mem_append_left _ (List.mem_append_left _ (List.mem_append_left _ (List.mem_append_left _ (List.mem_append_left _ (List.mem_of_getElem? (i := 0) rfl))))))))))))
theorem hwX11_lay_2 : (.fieldLink RX11 163 "FortyBelts$Mill" "belts" "[LFortyBelts$Belt;" : Cond) ∈ wsX11_lay := (List.mem_cons_of_mem _ (List.mem_append_left _ (List.mem_append_left _ (List.mem_append_left _ (List.mem_append_left _ (List.mem_append_left _ (List.mem_append_left _ (List.mem_append_left _ (List.mem_append_left _ (List.mem_append_left _ (List.mem_append_left _ (List.mem_of_getElem? (i := 1) rfl))))))))))))
theorem hwX11_lay_3 : (.fieldLink RX11 68 "FortyBelts" "chosen" "[I" : Cond) ∈ wsX11_lay := (List.mem_cons_of_mem _ (List.mem_append_left _ (List.mem_append_left _ (List.mem_append_left _ (List.mem_append_left _ (List.mem_append_left _ (List.mem_append_left _ (List.mem_append_left _ (List.mem_append_left _ (List.mem_append_left _ (List.mem_append_left _ (List.mem_of_getElem? (i := 2) rfl))))))))))))
theorem hcX11_lay_X11 : ∀ w ∈ wsX110, w ∈ wsX11_lay := fun _ h => (List.mem_cons_of_mem _ (List.mem_append_left _ (List.mem_append_left _ (List.mem_append_left _ (List.mem_append_left _ (List.mem_append_left _ (List.mem_append_left _ (List.mem_append_left _ (List.mem_append_left _ (List.mem_append_right _ h))))))))))
theorem hcX11_lay_X6 : ∀ w ∈ wsX60, w ∈ wsX11_lay := fun _ h => (List.mem_cons_of_mem _ (List.mem_append_left _ (List.mem_append_left _ (List.mem_append_left _ (List.mem_append_left _ (List.mem_append_left _ (List.mem_append_left _ (List.mem_append_left _ (List.mem_append_right _ h)))))))))
set_option maxHeartbeats 4000000 in
set_option maxRecDepth 100000 in
theorem J_X11_lay {D : va_G} {KA : Nat → ClassId} {zs : ZS} {ad : Nat → Nat} {ids : List Nat} {sz : Nat} (l : Launch) (hI : ∀ c, c < 52 ∧ ¬ c = 19 → c ∈ ids)   {σ : St} {post : Int32 → St → Prop} (h : wX11_lay ids  σ post) : Met l yX11_lay wsX11_lay rmX11_lay (va_Pc [.ref (ad 0)] (xIn D KA zs layX stX ad ids sz σ)) (va_Qi post (xOut D KA layX stX ad ids) (xA ad ids sz)) 0 0 (xA ad ids sz) := by
  refine Met.ofW (cc := cX11_lay) (maxL := 2) (ret := (some .int)) (by decide) rfl ?_
  intro p e s m args below meth c s₁ B hml hv
  obtain ⟨hav, hsz, hK, hZ, hP, hD⟩ := hv
  have hx := B.exec
  have hb := B.bytes
  have hr := B.returns
  have hts := atoms_spec (ws := wsX11_lay) B.pre
  have hown : s.vm.findClass RX11 = some m.cls := findClass_of_methodNamed B.named
  have hlocks := B.notSynchronized
  subst hsz
  have hA : ∀ q : Nat, s.heap.size ≤ q → xA ad ids s.heap.size q := fun q h => Or.inr h
  have hW : xW D KA layX stX ad ids (xA ad ids s.heap.size) s.heap σ s.heap [] := ⟨hP, xA_D (D := D) hD, va_S.rf⟩
  have kr : ∀ (v : Int32) (σ : St) (H : Heap) (locs : List Loc) (ls : Array Slot) (pc : Nat), xW D KA layX stX ad ids (xA ad ids s.heap.size) s.heap σ H locs → post v σ → decode cX11_lay pc = .ok (.ireturn, 1) → W p l e rmX11_lay s m args below meth c H locs 0 0 (MQ below (va_Qi post (xOut D KA layX stX ad ids) (xA ad ids s.heap.size)) args s 0 0 (xA ad ids s.heap.size)) (F0 m pc ls [.int v]) := fun v σ H locs ls pc hW h hd => x_iret hx hb hr hlocks hW h hd
  have hl := lv_entry ([.ref (ad 0)]) (n := 2) (Nat.le_of_ble_eq_true rfl)
  rw [show entryFrame m args 2 = entryFrame m ([.ref (ad 0)] : List Value).toArray 2 from by rw [hav]]
  rw [lg_entry_eq]
  generalize (lg_sl ([.ref (ad 0)]) ++ List.replicate (2 - (lg_sl ([.ref (ad 0)])).length) Slot.unset).toArray = ls at hl ⊢
  have hl : lv_has ls 2 [(0, .ref (ad 0))] := hl
  show W p l e rmX11_lay s m args below meth c s.heap [] 0 0 _ _
  generalize MQ below (va_Qi post (xOut D KA layX stX ad ids) (xA ad ids s.heap.size)) args s 0 0 (xA ad ids s.heap.size) = Q at kr ⊢
  have blk11 : ∀ (n : Nat) (x1 : Int32) (σ : St) (H : Heap) (locs : List Loc) (ls : Array Slot), xW D KA layX stX ad ids (xA ad ids s.heap.size) s.heap σ H locs → lv_has ls 2 [(0, .ref (ad 0)), (1, .int x1)] → wX11_lay_11 ids post  n x1 σ → W p l e rmX11_lay s m args below meth c H locs 0 0 Q (F0 m 11 ls []) := by
    intro    n
    induction n with
    | zero => intro x1 σ H locs ls hW hl h; exact (h : False).elim
    | succ n ih =>
      intro x1 σ H locs ls hW hl h
      have hk11 : ∀ (x1 : Int32) (σ : St) (H : Heap) (locs : List Loc) (ls : Array Slot), xW D KA layX stX ad ids (xA ad ids s.heap.size) s.heap σ H locs → lv_has ls 2 [(0, .ref (ad 0)), (1, .int x1)] → (wX11_lay_11 ids post  n) x1 σ → W p l e rmX11_lay s m args below meth c H locs 0 0 Q (F0 m 11 ls []) := fun x1 σ H locs ls hW hl h => ih x1 σ H locs ls hW hl h
      rw [wX11_lay_11_s] at h
      try dsimp only at h
      generalize wX11_lay_11 ids post  n = k11 at h hk11
      refine lv_iload_n hx hb dX11_lay_11 rfl (lv_at hl 1 rfl) ?_
      refine lv_aload_n hx hb dX11_lay_12 rfl (lv_at hl 0 rfl) ?_
      refine x_calli (va_runV (As := []) (rest := [.int x1]) ⟨hx, hb, hml, hown, hts⟩ (J_X11_freeBelts l hI h) (cwV 0 hts gX11_lay_X11_freeBelts rfl rfl rfl hdV_X11_freeBelts ⟨Nat.le_of_ble_eq_true rfl, Nat.le_of_ble_eq_true rfl⟩) (x_preV (ci := 11) hK hZ hA hW (hI 0 (by decide)) lX_0 rfl) rfl rfl hl.1 rfl (lv_room (Nat.le_of_ble_eq_true rfl)) dX11_lay_13 ⟨Nat.zero_le _, Nat.zero_le _⟩) hW hA (fun r2 σ1 H locs h hW => ?_)
      try dsimp only at h
      refine lv_icmp_ge (tgt := 48) hx hb dX11_lay_16 (by decide) (fun c3 => ?_) (fun c3 => ?_)
      · have h := h.1 c3
        refine lv_aload_n hx hb dX11_lay_48 rfl (lv_at hl 0 rfl) ?_
        refine xgX11_10 hx hb hts hown hK hW 0 hcX11_lay_X11 (hI 0 (by decide)) lX_0 (hts _ hwX11_lay_0) dX11_lay_49 ?_
        exact kr _ _ _ _ _ _ hW h dX11_lay_52
      · have h := h.2 c3
        refine lv_aload_n hx hb dX11_lay_19 rfl (lv_at hl 0 rfl) ?_
        refine xgX11_0r hx hb hts hown hK hW 0 hcX11_lay_X11 (hI 0 (by decide)) lX_0 (hts _ hwX11_lay_1) (sX_0_0 _) dX11_lay_20 ?_
        refine lv_aload_n hx hb dX11_lay_23 rfl (lv_at hl 0 rfl) ?_
        refine xgX11_0r hx hb hts hown hK hW 0 hcX11_lay_X11 (hI 0 (by decide)) lX_0 (hts _ hwX11_lay_1) (sX_0_0 _) dX11_lay_24 ?_
        refine xgX6_12r hx hb hts hown hK hW 1 hcX11_lay_X6 (hI 1 (by decide)) lX_1 (hts _ hwX11_lay_2) (sX_1_12 _) dX11_lay_27 ?_
        refine lv_iload_n hx hb dX11_lay_30 rfl (lv_at hl 1 rfl) ?_
        obtain ⟨hi4, h⟩ := h
        obtain ⟨o5, hr6, ok_o5, h⟩ := h
        refine x_ald hx hb hK hW 11 0 (hI 11 (by decide)) lX_11 rfl hi4 ((sX_11 _ _).trans hr6) dX11_lay_31 ?_
        refine lv_iconst (v := 1) hx hb dX11_lay_32 (by decide) ?_
        refine lv_aload_n hx hb dX11_lay_33 rfl (lv_at hl 0 rfl) ?_
        refine xgX11_8r hx hb hts hown hK hW 0 hcX11_lay_X11 (hI 0 (by decide)) lX_0 (hts _ hwX11_lay_3) (sX_0_8 _) dX11_lay_34 ?_
        refine lv_iload_n hx hb dX11_lay_37 rfl (lv_at hl 1 rfl) ?_
        obtain ⟨hi7, h⟩ := h
        refine x_iald hx hb hK hW 18 (hI 18 (by decide)) lX_18 hi7 dX11_lay_38 ?_
        refine x_callv (va_runV (As := [.ref (ad o5), .int (1 : Int32), .int (gI σ1 18 x1.toNatClampNeg)]) (rest := []) ⟨hx, hb, hml, hown, hts⟩ (J_X6_putDrum l hI ok_o5 h) (cwV 3 hts gX11_lay_X6_putDrum rfl rfl rfl hdV_X6_putDrum ⟨Nat.le_of_ble_eq_true rfl, Nat.le_of_ble_eq_true rfl⟩) (x_preV (ci := 6) hK hZ hA hW (hI 1 (by decide)) lX_1 rfl) rfl rfl hl.1 rfl (lv_room (Nat.le_of_ble_eq_true rfl)) dX11_lay_39 ⟨Nat.zero_le _, Nat.zero_le _⟩) hW hA (fun σ8 H locs h hW => ?_)
        try dsimp only at h
        obtain ⟨v9, hv9⟩ : ∃ y : Int32, y = x1 + (1 : Int32) := ⟨_, rfl⟩
        have h := h v9 hv9
        refine lv_iinc (v := v9) (lv' := [(1, .int v9), (0, .ref (ad 0))]) hx hb dX11_lay_42 hl (k := 1) rfl (by rw [hv9]; rfl) (by decide) rfl (fun ls hl => ?_)
        refine lv_goto (tgt := 11) hx hb dX11_lay_45 (by decide) ?_
        exact hk11 v9 _ _ _ _ hW (lv_sub hl [1, 0] rfl) h
  have main : ∀ (H : Heap) (locs : List Loc) (ls : Array Slot), xW D KA layX stX ad ids (xA ad ids s.heap.size) s.heap σ H locs → lv_has ls 2 [(0, .ref (ad 0))] → W p l e rmX11_lay s m args below meth c H locs 0 0 Q (F0 m 0 ls []) := by
    intro H locs ls hW hl
    unfold wX11_lay at h
    refine lv_aload_n hx hb dX11_lay_0 rfl (lv_at hl 0 rfl) ?_
    refine x_calli (va_runV (As := []) (rest := []) ⟨hx, hb, hml, hown, hts⟩ (J_X11_findChosen l hI h) (cwV 0 hts gX11_lay_X11_findChosen rfl rfl rfl hdV_X11_findChosen ⟨Nat.le_of_ble_eq_true rfl, Nat.le_of_ble_eq_true rfl⟩) (x_preV (ci := 11) hK hZ hA hW (hI 0 (by decide)) lX_0 rfl) rfl rfl hl.1 rfl (lv_room (Nat.le_of_ble_eq_true rfl)) dX11_lay_1 ⟨Nat.zero_le _, Nat.zero_le _⟩) hW hA (fun r1002 σ1001 H locs h hW => ?_)
    try dsimp only at h
    refine lv_if_ne (tgt := 9) hx hb dX11_lay_4 (by decide) (fun c1003 => ?_) (fun c1003 => ?_)
    · have h := h.1 c1003
      refine lv_iconst (v := 0) hx hb dX11_lay_9 (by decide) ?_
      refine lv_istore_n (lv' := [(1, .int (0 : Int32)), (0, .ref (ad 0))]) hx hb dX11_lay_10 rfl hl (by decide) rfl (fun ls hl => ?_)
      obtain ⟨n, h⟩ := h
      exact blk11    n (0 : Int32) _ _ _ _ hW (lv_sub hl [1, 0] rfl) h
    · have h := h.2 c1003
      refine lv_iconst (v := (-1)) hx hb dX11_lay_7 (by decide) ?_
      exact kr _ _ _ _ _ _ hW h dX11_lay_8
  exact main _ _ _ hW hl
theorem hwX5_init_0 : (.methodLink RX5 1 objectInit : Cond) ∈ wsX5_init := (List.mem_cons_of_mem _ (List.mem_append_left _ (List.mem_of_getElem? (i := 0) rfl)))
theorem hwX5_init_1 : (.instanceMethod objectInit : Cond) ∈ wsX5_init := (List.mem_cons_of_mem _ (List.mem_append_left _ (List.mem_of_getElem? (i := 1) rfl)))
theorem hwX5_init_2 : (.code objectInit ⟨#[0xb1]⟩ 1 none : Cond) ∈ wsX5_init := (List.mem_cons_of_mem _ (List.mem_append_left _ (List.mem_of_getElem? (i := 2) rfl)))
theorem hwX5_init_3 : (.fieldLink RX5 7 "FortyBelts$Machine" "on" "Z" : Cond) ∈ wsX5_init := (List.mem_cons_of_mem _ (List.mem_append_left _ (List.mem_of_getElem? (i := 3) rfl)))
theorem hwX5_init_4 : (.fieldLink RX5 13 "FortyBelts$Machine" "shaft" "I" : Cond) ∈ wsX5_init := (List.mem_cons_of_mem _ (List.mem_append_left _ (List.mem_of_getElem? (i := 4) rfl)))
theorem hwX5_init_5 : (.fieldLink RX5 17 "FortyBelts$Machine" "from" "I" : Cond) ∈ wsX5_init := (List.mem_cons_of_mem _ (List.mem_append_left _ (List.mem_of_getElem? (i := 5) rfl)))
theorem hwX5_init_6 : (.fieldLink RX5 20 "FortyBelts$Machine" "to" "I" : Cond) ∈ wsX5_init := (List.mem_cons_of_mem _ (List.mem_append_left _ (List.mem_of_getElem? (i := 6) rfl)))
theorem hcX5_init_X5 : ∀ w ∈ wsX50, w ∈ wsX5_init := fun _ h => (List.mem_cons_of_mem _ (List.mem_append_right _ h))
set_option maxHeartbeats 4000000 in
set_option maxRecDepth 100000 in
theorem J_X5_init {D : va_G} {KA : Nat → ClassId} {zs : ZS} {ad : Nat → Nat} {ids : List Nat} {sz : Nat} (l : Launch) (hI : ∀ c, c < 52 ∧ ¬ c = 19 → c ∈ ids) {a0 : Nat} {a1 : Int32} {a2 : Int32} {a3 : Int32} (ok_a0 : okM ids a0) {σ : St} {post : St → Prop} (h : wX5_init ids a0 a1 a2 a3 σ post) : Met l yX5_init wsX5_init rmX5_init (va_Pc [.ref (ad a0), .int a1, .int a2, .int a3] (xIn D KA zs layX stX ad ids sz σ)) (va_Qv post (xOut D KA layX stX ad ids) (xA ad ids sz)) 0 0 (xA ad ids sz) := by
  refine Met.ofW (cc := cX5_init) (maxL := 4) (ret := none) (by decide) rfl ?_
  intro p e s m args below meth c s₁ B hml hv
  obtain ⟨hav, hsz, hK, hZ, hP, hD⟩ := hv
  have hx := B.exec
  have hb := B.bytes
  have hr := B.returns
  have hts := atoms_spec (ws := wsX5_init) B.pre
  have hown : s.vm.findClass RX5 = some m.cls := findClass_of_methodNamed B.named
  have hlocks := B.notSynchronized
  have hin2 : meth.name = "<init>" := (name_of_methodNamed B.named B.method).1
  subst hsz
  have hA : ∀ q : Nat, s.heap.size ≤ q → xA ad ids s.heap.size q := fun q h => Or.inr h
  have hW : xW D KA layX stX ad ids (xA ad ids s.heap.size) s.heap σ s.heap [] := ⟨hP, xA_D (D := D) hD, va_S.rf⟩
  have kr : ∀ (σ : St) (H : Heap) (locs : List Loc) (ls : Array Slot) (pc : Nat), xW D KA layX stX ad ids (xA ad ids s.heap.size) s.heap σ H locs → post σ → decode cX5_init pc = .ok (.return_, 1) → W p l e rmX5_init s m args below meth c H locs 0 0 (MQ below (va_Qv post (xOut D KA layX stX ad ids) (xA ad ids s.heap.size)) args s 0 0 (xA ad ids s.heap.size)) (F0 m pc ls []) := fun σ H locs ls pc hW h hd => x_vret hx hb hr hlocks hW h hd
  have hl := lv_entry ([.ref (ad a0), .int a1, .int a2, .int a3]) (n := 4) (Nat.le_of_ble_eq_true rfl)
  rw [show entryFrame m args 4 = entryFrame m ([.ref (ad a0), .int a1, .int a2, .int a3] : List Value).toArray 4 from by rw [hav]]
  rw [lg_entry_eq]
  generalize (lg_sl ([.ref (ad a0), .int a1, .int a2, .int a3]) ++ List.replicate (4 - (lg_sl ([.ref (ad a0), .int a1, .int a2, .int a3])).length) Slot.unset).toArray = ls at hl ⊢
  have hl : lv_has ls 4 [(0, .ref (ad a0)), (1, .int a1), (2, .int a2), (3, .int a3)] := hl
  show W p l e rmX5_init s m args below meth c s.heap [] 0 0 _ _
  generalize MQ below (va_Qv post (xOut D KA layX stX ad ids) (xA ad ids s.heap.size)) args s 0 0 (xA ad ids s.heap.size) = Q at kr ⊢
  have main : ∀ (H : Heap) (locs : List Loc) (ls : Array Slot), xW D KA layX stX ad ids (xA ad ids s.heap.size) s.heap σ H locs → lv_has ls 4 [(0, .ref (ad a0)), (1, .int a1), (2, .int a2), (3, .int a3)] → W p l e rmX5_init s m args below meth c H locs 0 0 Q (F0 m 0 ls []) := by
    intro H locs ls hW hl
    unfold wX5_init at h
    refine lv_aload_n hx hb dX5_init_0 rfl (lv_at hl 0 rfl) ?_
    refine W.objInit hx hb hown (hts _ hwX5_init_0) (hts _ hwX5_init_1) (hts _ hwX5_init_2) rfl (by rw [hml]; exact hl.1) rfl dX5_init_1 (Nat.le_of_ble_eq_true rfl) (Nat.le_of_ble_eq_true rfl) ?_
    refine W.eq (g2 := F0 m 4 ls []) rfl ?_
    refine lv_aload_n hx hb dX5_init_4 rfl (lv_at hl 0 rfl) ?_
    refine lv_iconst (v := 1) hx hb dX5_init_5 (by decide) ?_
    refine xpX5_5 hx hb hts hown hK hW a0 hcX5_init_X5 ok_a0.1 (lay_okM ok_a0) (hts _ hwX5_init_3) isB_1 dX5_init_6 (fun σ1001 H locs hσ1001 hW => ?_)
    have h := h σ1001 hσ1001
    refine lv_aload_n hx hb dX5_init_9 rfl (lv_at hl 0 rfl) ?_
    refine lv_iload_n hx hb dX5_init_10 rfl (lv_at hl 1 rfl) ?_
    refine xfX5_0 hx hb hts hown hK hW a0 hcX5_init_X5 ok_a0.1 (lay_okM ok_a0) (hts _ hwX5_init_4) hin2 rfl dX5_init_11 (fun σ1002 H locs hσ1002 hW => ?_)
    have h := h σ1002 hσ1002
    refine lv_aload_n hx hb dX5_init_14 rfl (lv_at hl 0 rfl) ?_
    refine lv_iload_n hx hb dX5_init_15 rfl (lv_at hl 2 rfl) ?_
    refine xfX5_1 hx hb hts hown hK hW a0 hcX5_init_X5 ok_a0.1 (lay_okM ok_a0) (hts _ hwX5_init_5) hin2 rfl dX5_init_16 (fun σ1003 H locs hσ1003 hW => ?_)
    have h := h σ1003 hσ1003
    refine lv_aload_n hx hb dX5_init_19 rfl (lv_at hl 0 rfl) ?_
    refine lv_iload_n hx hb dX5_init_20 rfl (lv_at hl 3 rfl) ?_
    refine xfX5_2 hx hb hts hown hK hW a0 hcX5_init_X5 ok_a0.1 (lay_okM ok_a0) (hts _ hwX5_init_6) hin2 rfl dX5_init_21 (fun σ1004 H locs hσ1004 hW => ?_)
    have h := h σ1004 hσ1004
    exact kr _ _ _ _ _ hW h dX5_init_24
  exact main _ _ _ hW hl
theorem hwX6_addMachine_0 : (.fieldLink RX6 33 "FortyBelts$Mill" "machines" "[LFortyBelts$Machine;" : Cond) ∈ wsX6_addMachine := (List.mem_cons_of_mem _ (List.mem_append_left _ (List.mem_of_getElem? (i := 0) rfl)))
theorem hwX6_addMachine_1 : (.fieldLink RX6 59 "FortyBelts$Mill" "machineCount" "I" : Cond) ∈ wsX6_addMachine := (List.mem_cons_of_mem _ (List.mem_append_left _ (List.mem_of_getElem? (i := 1) rfl)))
theorem hcX6_addMachine_X6 : ∀ w ∈ wsX60, w ∈ wsX6_addMachine := fun _ h => (List.mem_cons_of_mem _ (List.mem_append_right _ h))
set_option maxHeartbeats 4000000 in
set_option maxRecDepth 100000 in
theorem J_X6_addMachine {D : va_G} {KA : Nat → ClassId} {zs : ZS} {ad : Nat → Nat} {ids : List Nat} {sz : Nat} (l : Launch) (hI : ∀ c, c < 52 ∧ ¬ c = 19 → c ∈ ids) {a1 : Nat} (ok_a1 : okM ids a1) {σ : St} {post : Int32 → St → Prop} (h : wX6_addMachine ids a1 σ post) : Met l yX6_addMachine wsX6_addMachine rmX6_addMachine (va_Pc [.ref (ad 1), .ref (ad a1)] (xIn D KA zs layX stX ad ids sz σ)) (va_Qi post (xOut D KA layX stX ad ids) (xA ad ids sz)) 0 0 (xA ad ids sz) := by
  refine Met.ofW (cc := cX6_addMachine) (maxL := 2) (ret := (some .int)) (by decide) rfl ?_
  intro p e s m args below meth c s₁ B hml hv
  obtain ⟨hav, hsz, hK, hZ, hP, hD⟩ := hv
  have hx := B.exec
  have hb := B.bytes
  have hr := B.returns
  have hts := atoms_spec (ws := wsX6_addMachine) B.pre
  have hown : s.vm.findClass RX6 = some m.cls := findClass_of_methodNamed B.named
  have hlocks := B.notSynchronized
  subst hsz
  have hA : ∀ q : Nat, s.heap.size ≤ q → xA ad ids s.heap.size q := fun q h => Or.inr h
  have hW : xW D KA layX stX ad ids (xA ad ids s.heap.size) s.heap σ s.heap [] := ⟨hP, xA_D (D := D) hD, va_S.rf⟩
  have kr : ∀ (v : Int32) (σ : St) (H : Heap) (locs : List Loc) (ls : Array Slot) (pc : Nat), xW D KA layX stX ad ids (xA ad ids s.heap.size) s.heap σ H locs → post v σ → decode cX6_addMachine pc = .ok (.ireturn, 1) → W p l e rmX6_addMachine s m args below meth c H locs 0 0 (MQ below (va_Qi post (xOut D KA layX stX ad ids) (xA ad ids s.heap.size)) args s 0 0 (xA ad ids s.heap.size)) (F0 m pc ls [.int v]) := fun v σ H locs ls pc hW h hd => x_iret hx hb hr hlocks hW h hd
  have hl := lv_entry ([.ref (ad 1), .ref (ad a1)]) (n := 2) (Nat.le_of_ble_eq_true rfl)
  rw [show entryFrame m args 2 = entryFrame m ([.ref (ad 1), .ref (ad a1)] : List Value).toArray 2 from by rw [hav]]
  rw [lg_entry_eq]
  generalize (lg_sl ([.ref (ad 1), .ref (ad a1)]) ++ List.replicate (2 - (lg_sl ([.ref (ad 1), .ref (ad a1)])).length) Slot.unset).toArray = ls at hl ⊢
  have hl : lv_has ls 2 [(0, .ref (ad 1)), (1, .ref (ad a1))] := hl
  show W p l e rmX6_addMachine s m args below meth c s.heap [] 0 0 _ _
  generalize MQ below (va_Qi post (xOut D KA layX stX ad ids) (xA ad ids s.heap.size)) args s 0 0 (xA ad ids s.heap.size) = Q at kr ⊢
  have main : ∀ (H : Heap) (locs : List Loc) (ls : Array Slot), xW D KA layX stX ad ids (xA ad ids s.heap.size) s.heap σ H locs → lv_has ls 2 [(0, .ref (ad 1)), (1, .ref (ad a1))] → W p l e rmX6_addMachine s m args below meth c H locs 0 0 Q (F0 m 0 ls []) := by
    intro H locs ls hW hl
    unfold wX6_addMachine at h
    refine lv_aload_n hx hb dX6_addMachine_0 rfl (lv_at hl 0 rfl) ?_
    refine xgX6_10r hx hb hts hown hK hW 1 hcX6_addMachine_X6 (hI 1 (by decide)) lX_1 (hts _ hwX6_addMachine_0) (sX_1_10 _) dX6_addMachine_1 ?_
    refine lv_aload_n hx hb dX6_addMachine_4 rfl (lv_at hl 0 rfl) ?_
    refine xgX6_1 hx hb hts hown hK hW 1 hcX6_addMachine_X6 (hI 1 (by decide)) lX_1 (hts _ hwX6_addMachine_1) dX6_addMachine_5 ?_
    refine lv_aload_n hx hb dX6_addMachine_8 rfl (lv_at hl 1 rfl) ?_
    obtain ⟨hi1001, h⟩ := h
    refine x_ast hx hb hK hW 9 1 (hI 9 (by decide)) lX_9 ok_a1.1 (lay_okM ok_a1) rfl rfl hi1001 (fun _ => rfl) dX6_addMachine_9 (fun σ1002 H locs hσ1002 hW => ?_)
    have h := h σ1002 hσ1002
    refine lv_aload_n hx hb dX6_addMachine_10 rfl (lv_at hl 0 rfl) ?_
    refine lv_dup hx hb dX6_addMachine_11 rfl ?_
    refine xgX6_1 hx hb hts hown hK hW 1 hcX6_addMachine_X6 (hI 1 (by decide)) lX_1 (hts _ hwX6_addMachine_1) dX6_addMachine_12 ?_
    refine lv_dup_x1 hx hb dX6_addMachine_15 rfl rfl ?_
    refine lv_iconst (v := 1) hx hb dX6_addMachine_16 (by decide) ?_
    refine lv_iadd hx hb dX6_addMachine_17 ?_
    refine xpX6_1 hx hb hts hown hK hW 1 hcX6_addMachine_X6 (hI 1 (by decide)) lX_1 (hts _ hwX6_addMachine_1) dX6_addMachine_18 (fun σ1003 H locs hσ1003 hW => ?_)
    have h := h σ1003 hσ1003
    exact kr _ _ _ _ _ _ hW h dX6_addMachine_21
  exact main _ _ _ hW hl
theorem hwX11_machine_0 : (.fieldLink RX11 10 "FortyBelts" "mill" "LFortyBelts$Mill;" : Cond) ∈ wsX11_machine := (List.mem_cons_of_mem _ (List.mem_append_left _ (List.mem_append_left _ (List.mem_append_left _ (List.mem_append_left _ (List.mem_of_getElem? (i := 0) rfl))))))
theorem hwX11_machine_1 : (.fieldLink RX11 92 "FortyBelts$Mill" "machineCount" "I" : Cond) ∈ wsX11_machine := (List.mem_cons_of_mem _ (List.mem_append_left _ (List.mem_append_left _ (List.mem_append_left _ (List.mem_append_left _ (List.mem_of_getElem? (i := 1) rfl))))))
theorem hwX11_machine_2 : (.classLink RX11 95 RX5 : Cond) ∈ wsX11_machine := (List.mem_cons_of_mem _ (List.mem_append_left _ (List.mem_append_left _ (List.mem_append_left _ (List.mem_append_left _ (List.mem_of_getElem? (i := 2) rfl))))))
theorem hwX11_machine_3 : (.instantiable RX5 9 : Cond) ∈ wsX11_machine := (List.mem_cons_of_mem _ (List.mem_append_left _ (List.mem_append_left _ (List.mem_append_left _ (List.mem_append_left _ (List.mem_of_getElem? (i := 3) rfl))))))
theorem hwX11_machine_4 : (.initialized RX5 : Cond) ∈ wsX11_machine := (List.mem_cons_of_mem _ (List.mem_append_left _ (List.mem_append_left _ (List.mem_append_left _ (List.mem_append_left _ (List.mem_of_getElem? (i := 4) rfl))))))
theorem hwX11_machine_5 : (.methodLink RX11 97 yX5_init : Cond) ∈ wsX11_machine := (List.mem_cons_of_mem _ (List.mem_append_left _ (List.mem_append_left _ (List.mem_append_left _ (List.mem_append_left _ (List.mem_of_getElem? (i := 16) rfl))))))
theorem hwX11_machine_6 : (.instanceMethod yX5_init : Cond) ∈ wsX11_machine := (List.mem_cons_of_mem _ (List.mem_append_left _ (List.mem_append_left _ (List.mem_append_left _ (List.mem_append_left _ (List.mem_of_getElem? (i := 17) rfl))))))
theorem hwX11_machine_7 : (.fieldLink RX11 100 "FortyBelts$Machine" "load" "I" : Cond) ∈ wsX11_machine := (List.mem_cons_of_mem _ (List.mem_append_left _ (List.mem_append_left _ (List.mem_append_left _ (List.mem_append_left _ (List.mem_of_getElem? (i := 5) rfl))))))
theorem hwX11_machine_8 : (.fieldLink RX11 103 "FortyBelts$Machine" "hours" "I" : Cond) ∈ wsX11_machine := (List.mem_cons_of_mem _ (List.mem_append_left _ (List.mem_append_left _ (List.mem_append_left _ (List.mem_append_left _ (List.mem_of_getElem? (i := 6) rfl))))))
theorem hcX11_machine_X11 : ∀ w ∈ wsX110, w ∈ wsX11_machine := fun _ h => (List.mem_cons_of_mem _ (List.mem_append_left _ (List.mem_append_left _ (List.mem_append_right _ h))))
theorem hcX11_machine_X6 : ∀ w ∈ wsX60, w ∈ wsX11_machine := fun _ h => (List.mem_cons_of_mem _ (List.mem_append_left _ (List.mem_append_right _ h)))
theorem hcX11_machine_X5 : ∀ w ∈ wsX50, w ∈ wsX11_machine := fun _ h => (List.mem_cons_of_mem _ (List.mem_append_right _ h))
set_option maxHeartbeats 16000000 in
set_option maxRecDepth 100000 in
theorem J_X11_machine {D : va_G} {KA : Nat → ClassId} {zs : ZS} {ad : Nat → Nat} {ids : List Nat} {sz : Nat} (l : Launch) {d0 : Nat} {a1 : Int32} {a2 : Int32} {a3 : Int32} {a4 : Int32} (hI : ∀ c, c < 52 ∧ ¬ c = 19 → c ∈ ids)  {σ : St} {post : Int32 → St → List Nat → Prop} (h : wX11_machine ids d0 a1 a2 a3 a4 σ post) : Met l yX11_machine wsX11_machine rmX11_machine (va_Pc [.ref (ad 0), .int a1, .int a2, .int a3, .int a4] (xIn D KA zs layX stX ad ids sz σ)) (va_Qi (S := St × (Nat → Nat) × List Nat) (fun r u => post r u.1 u.2.2) (xOutA D KA layX stX ad ids sz) (xA ad ids sz)) 1 9 (xA ad ids sz) := by
  refine Met.ofW (cc := cX11_machine) (maxL := 8) (ret := (some .int)) (by decide) rfl ?_
  intro p e s m args below meth c s₁ B hml hv
  obtain ⟨hav, hsz, hK, hZ, hP, hD⟩ := hv
  have hx := B.exec
  have hb := B.bytes
  have hr := B.returns
  have hts := atoms_spec (ws := wsX11_machine) B.pre
  have hown : s.vm.findClass RX11 = some m.cls := findClass_of_methodNamed B.named
  have hlocks := B.notSynchronized
  subst hsz
  have hA : ∀ q : Nat, s.heap.size ≤ q → xA ad ids s.heap.size q := fun q h => Or.inr h
  have hW : xW D KA layX stX ad ids (xA ad ids s.heap.size) s.heap σ s.heap [] := ⟨hP, xA_D (D := D) hD, va_S.rf⟩
  have kr : ∀ (v : Int32) (σ : St) (ad' : Nat → Nat) (ids' : List Nat) (H : Heap) (locs : List Loc) (ls : Array Slot) (pc : Nat), xW D KA layX stX ad' ids' (xA ad ids s.heap.size) s.heap σ H locs → (∀ c ∈ ids, ad' c = ad c) → (∀ c ∈ ids, c ∈ ids') → post v σ ids' → decode cX11_machine pc = .ok (.ireturn, 1) → W p l e rmX11_machine s m args below meth c H locs 1 9 (MQ below (va_Qi (S := St × (Nat → Nat) × List Nat) (fun r u => post r u.1 u.2.2) (xOutA D KA layX stX ad ids s.heap.size) (xA ad ids s.heap.size)) args s 1 9 (xA ad ids s.heap.size)) (F0 m pc ls [.int v]) := fun v σ ad' ids' H locs ls pc hW he hs h hd => x_iretA hx hb hr hlocks hW he hs h hd
  have hl := lv_entry ([.ref (ad 0), .int a1, .int a2, .int a3, .int a4]) (n := 8) (Nat.le_of_ble_eq_true rfl)
  rw [show entryFrame m args 8 = entryFrame m ([.ref (ad 0), .int a1, .int a2, .int a3, .int a4] : List Value).toArray 8 from by rw [hav]]
  rw [lg_entry_eq]
  generalize (lg_sl ([.ref (ad 0), .int a1, .int a2, .int a3, .int a4]) ++ List.replicate (8 - (lg_sl ([.ref (ad 0), .int a1, .int a2, .int a3, .int a4])).length) Slot.unset).toArray = ls at hl ⊢
  have hl : lv_has ls 8 [(0, .ref (ad 0)), (1, .int a1), (2, .int a2), (3, .int a3), (4, .int a4)] := hl
  show W p l e rmX11_machine s m args below meth c s.heap [] 0 0 _ _
  generalize MQ below (va_Qi (S := St × (Nat → Nat) × List Nat) (fun r u => post r u.1 u.2.2) (xOutA D KA layX stX ad ids s.heap.size) (xA ad ids s.heap.size)) args s 1 9 (xA ad ids s.heap.size) = Q at kr ⊢
  unfold wX11_machine at h
  refine lv_iload_n hx hb dX11_machine_0 rfl (lv_at hl 3 rfl) ?_
  refine lv_sipush (v := 10000) hx hb dX11_machine_1 (by decide) ?_
  refine lv_idiv hx hb dX11_machine_4 (by decide) ?_
  refine lv_topi (fun v1001 hv1001 => ?_)
  have h := h v1001 hv1001
  refine lv_istore (lv' := [(5, .int v1001), (0, .ref (ad 0)), (1, .int a1), (2, .int a2), (3, .int a3), (4, .int a4)]) hx hb dX11_machine_5 hl (by decide) rfl (fun ls hl => ?_)
  refine lv_iload_n hx hb dX11_machine_7 rfl (lv_at hl 4 rfl) ?_
  refine lv_sipush (v := 10000) hx hb dX11_machine_8 (by decide) ?_
  refine lv_irem hx hb dX11_machine_11 (by decide) ?_
  refine lv_topi (fun v1002 hv1002 => ?_)
  have h := h v1002 hv1002
  refine lv_istore (lv' := [(6, .int v1002), (5, .int v1001), (0, .ref (ad 0)), (1, .int a1), (2, .int a2), (3, .int a3), (4, .int a4)]) hx hb dX11_machine_12 hl (by decide) rfl (fun ls hl => ?_)
  refine lv_iload_n hx hb dX11_machine_14 rfl (lv_at hl 5 rfl) ?_
  refine lv_if_lt (tgt := 33) hx hb dX11_machine_15 (by decide) (fun c1003 => ?_) (fun c1003 => ?_)
  · have h := h.1 c1003
    refine lv_bipush (v := (-2)) hx hb dX11_machine_33 (by decide) ?_
    refine W.widen (k := 1) (n := 9) (Nat.le_of_ble_eq_true rfl) (Nat.le_of_ble_eq_true rfl) ?_
    exact kr _ _ _ _ _ _ _ _ hW (fun _ _ => rfl) (fun c hc => hc) h dX11_machine_35
  · have h := h.2 c1003
    refine lv_iload hx hb dX11_machine_18 (lv_at hl 1 rfl) ?_
    refine lv_sipush (v := 9999) hx hb dX11_machine_20 (by decide) ?_
    refine lv_icmp_gt (tgt := 33) hx hb dX11_machine_23 (by decide) (fun c1004 => ?_) (fun c1004 => ?_)
    · have h := h.1 c1004
      refine lv_bipush (v := (-2)) hx hb dX11_machine_33 (by decide) ?_
      refine W.widen (k := 1) (n := 9) (Nat.le_of_ble_eq_true rfl) (Nat.le_of_ble_eq_true rfl) ?_
      exact kr _ _ _ _ _ _ _ _ hW (fun _ _ => rfl) (fun c hc => hc) h dX11_machine_35
    · have h := h.2 c1004
      refine lv_iload hx hb dX11_machine_26 (lv_at hl 0 rfl) ?_
      refine lv_iload hx hb dX11_machine_28 (lv_at hl 1 rfl) ?_
      refine lv_icmp_ge (tgt := 36) hx hb dX11_machine_30 (by decide) (fun c1005 => ?_) (fun c1005 => ?_)
      · have h := h.1 c1005
        refine lv_aload_n hx hb dX11_machine_36 rfl (lv_at hl 2 rfl) ?_
        refine lv_iload_n hx hb dX11_machine_37 rfl (lv_at hl 3 rfl) ?_
        refine x_calli (va_runV (As := [.int a1]) (rest := []) ⟨hx, hb, hml, hown, hts⟩ (J_X11_isShaft l (fun c h => (hI c h)) h) (cwV 1 hts gX11_machine_X11_isShaft rfl rfl rfl hdV_X11_isShaft ⟨Nat.le_of_ble_eq_true rfl, Nat.le_of_ble_eq_true rfl⟩) (x_preV (ci := 11) hK hZ hA hW (hI 0 (by decide)) lX_0 rfl) rfl rfl hl.1 rfl (lv_room (Nat.le_of_ble_eq_true rfl)) dX11_machine_38 ⟨Nat.le_of_ble_eq_true rfl, Nat.le_of_ble_eq_true rfl⟩) hW hA (fun r1007 σ1006 H locs h hW => ?_)
        try dsimp only at h
        refine lv_if_eq (tgt := 66) hx hb dX11_machine_41 (by decide) (fun c1008 => ?_) (fun c1008 => ?_)
        · have h := h.1 c1008
          refine lv_bipush (v := (-2)) hx hb dX11_machine_66 (by decide) ?_
          refine W.widen (k := 1) (n := 9) (Nat.le_of_ble_eq_true rfl) (Nat.le_of_ble_eq_true rfl) ?_
          exact kr _ _ _ _ _ _ _ _ hW (fun _ _ => rfl) (fun c hc => hc) h dX11_machine_68
        · have h := h.2 c1008
          refine lv_iload_n hx hb dX11_machine_44 rfl (lv_at hl 4 rfl) ?_
          refine lv_iconst (v := 0) hx hb dX11_machine_45 (by decide) ?_
          refine lv_sipush (v := 999) hx hb dX11_machine_46 (by decide) ?_
          refine x_calli (va_runS (As := [.int a2, .int (0 : Int32), .int (999 : Int32)]) (rest := []) ⟨hx, hb, hml, hown, hts⟩ (J_X11_within l (fun c h => (hI c h)) h) (va_cwS 3 hts gX11_machine_X11_within rfl rfl rfl hdS_X11_within ⟨Nat.le_of_ble_eq_true rfl, Nat.le_of_ble_eq_true rfl⟩) (x_preS hK hZ hA hW) rfl rfl hl.1 rfl (lv_room (Nat.le_of_ble_eq_true rfl)) dX11_machine_49 ⟨Nat.le_of_ble_eq_true rfl, Nat.le_of_ble_eq_true rfl⟩) hW hA (fun r1010 σ1009 H locs h hW => ?_)
          try dsimp only at h
          refine lv_if_eq (tgt := 66) hx hb dX11_machine_52 (by decide) (fun c1011 => ?_) (fun c1011 => ?_)
          · have h := h.1 c1011
            refine lv_bipush (v := (-2)) hx hb dX11_machine_66 (by decide) ?_
            refine W.widen (k := 1) (n := 9) (Nat.le_of_ble_eq_true rfl) (Nat.le_of_ble_eq_true rfl) ?_
            exact kr _ _ _ _ _ _ _ _ hW (fun _ _ => rfl) (fun c hc => hc) h dX11_machine_68
          · have h := h.2 c1011
            refine lv_iload hx hb dX11_machine_55 (lv_at hl 6 rfl) ?_
            refine lv_iconst (v := 0) hx hb dX11_machine_57 (by decide) ?_
            refine lv_bipush (v := 24) hx hb dX11_machine_58 (by decide) ?_
            refine x_calli (va_runS (As := [.int a4, .int (0 : Int32), .int (24 : Int32)]) (rest := []) ⟨hx, hb, hml, hown, hts⟩ (J_X11_within l (fun c h => (hI c h)) h) (va_cwS 3 hts gX11_machine_X11_within rfl rfl rfl hdS_X11_within ⟨Nat.le_of_ble_eq_true rfl, Nat.le_of_ble_eq_true rfl⟩) (x_preS hK hZ hA hW) rfl rfl hl.1 rfl (lv_room (Nat.le_of_ble_eq_true rfl)) dX11_machine_60 ⟨Nat.le_of_ble_eq_true rfl, Nat.le_of_ble_eq_true rfl⟩) hW hA (fun r1013 σ1012 H locs h hW => ?_)
            try dsimp only at h
            refine lv_if_ne (tgt := 69) hx hb dX11_machine_63 (by decide) (fun c1014 => ?_) (fun c1014 => ?_)
            · have h := h.1 c1014
              refine lv_aload_n hx hb dX11_machine_69 rfl (lv_at hl 2 rfl) ?_
              refine xgX11_0r hx hb hts hown hK hW 0 hcX11_machine_X11 (hI 0 (by decide)) lX_0 (hts _ hwX11_machine_0) (sX_0_0 _) dX11_machine_70 ?_
              refine xgX6_1 hx hb hts hown hK hW 1 hcX11_machine_X6 (hI 1 (by decide)) lX_1 (hts _ hwX11_machine_1) dX11_machine_73 ?_
              refine lv_bipush (v := 10) hx hb dX11_machine_76 (by decide) ?_
              refine lv_icmp_ne (tgt := 84) hx hb dX11_machine_78 (by decide) (fun c1015 => ?_) (fun c1015 => ?_)
              · have h := h.1 c1015
                obtain ⟨⟨hq1016a, hq1016s, hq1016d, hq1016r, hq1016o⟩, h⟩ := h
                refine x_new hx hb hts hown hK hW hA d0 5 9 rfl hcX11_machine_X5 tyX5_ok dvX5 rfl (hts _ hwX11_machine_2) (hts _ hwX11_machine_3) (hts _ hwX11_machine_4) hq1016d hq1016a hq1016s hq1016r (Nat.le_of_ble_eq_true rfl) (Nat.le_of_ble_eq_true rfl) dX11_machine_84 (fun ad1018 H hAd1019 hW => ?_)
                obtain ⟨σ1017, hσ1017⟩ : ∃ τ, τ = nC σ1012 d0 := ⟨_, rfl⟩
                rw [← hσ1017] at hW
                obtain ⟨ids1020, hids1020⟩ : ∃ x, x = ids ++ [d0] := ⟨_, rfl⟩
                rw [← hids1020] at hW
                have h := h σ1017 hσ1017 ids1020 hids1020
                have e1021 : ad 0 = ad1018 0 := (hAd1019 _ (x_ne (hI 0 (by decide)) hq1016d)).symm
                rw [e1021] at hl
                rw [← hids1020] at hq1016o
                refine lv_dup hx hb dX11_machine_87 rfl ?_
                refine lv_iload_n hx hb dX11_machine_88 rfl (lv_at hl 3 rfl) ?_
                refine lv_iload hx hb dX11_machine_89 (lv_at hl 1 rfl) ?_
                refine lv_iload hx hb dX11_machine_91 (lv_at hl 0 rfl) ?_
                refine x_callv (va_runI (As := [.int a1, .int v1001, .int v1002]) (rest := [.ref (ad1018 d0)]) ⟨hx, hb, hml, hown, hts⟩ (J_X5_init l (fun c h => (x_mL hids1020 (hI c h))) hq1016o h) (cwI 3 hts gX11_machine_X5_init rfl rfl rfl (hts _ hwX11_machine_4) (hts _ hwX11_machine_5) (hts _ hwX11_machine_6) rfl hdI_X5_init ⟨Nat.le_of_ble_eq_true rfl, Nat.le_of_ble_eq_true rfl⟩) (x_preS hK hZ hA hW) rfl rfl hl.1 rfl (lv_room (Nat.le_of_ble_eq_true rfl)) dX11_machine_93 ⟨Nat.le_of_ble_eq_true rfl, Nat.le_of_ble_eq_true rfl⟩) hW hA (fun σ1022 H locs h hW => ?_)
                try dsimp only at h
                refine lv_astore (lv' := [(7, .ref (ad1018 d0)), (6, .int v1002), (5, .int v1001), (0, .ref (ad1018 0)), (1, .int a1), (2, .int a2), (3, .int a3), (4, .int a4)]) hx hb dX11_machine_96 hl (by decide) rfl (fun ls hl => ?_)
                refine lv_aload hx hb dX11_machine_98 (lv_at hl 0 rfl) ?_
                refine lv_iload_n hx hb dX11_machine_100 rfl (lv_at hl 5 rfl) ?_
                refine xpX5_3 hx hb hts hown hK hW d0 hcX11_machine_X5 hq1016o.1 hq1016a (hts _ hwX11_machine_7) dX11_machine_101 (fun σ1023 H locs hσ1023 hW => ?_)
                have h := h σ1023 hσ1023
                refine lv_aload hx hb dX11_machine_104 (lv_at hl 0 rfl) ?_
                refine lv_iload hx hb dX11_machine_106 (lv_at hl 7 rfl) ?_
                refine xpX5_4 hx hb hts hown hK hW d0 hcX11_machine_X5 hq1016o.1 hq1016a (hts _ hwX11_machine_8) dX11_machine_108 (fun σ1024 H locs hσ1024 hW => ?_)
                have h := h σ1024 hσ1024
                refine lv_aload_n hx hb dX11_machine_111 rfl (lv_at hl 3 rfl) ?_
                refine xgX11_0r hx hb hts hown hK hW 0 hcX11_machine_X11 (x_mL hids1020 (hI 0 (by decide))) lX_0 (hts _ hwX11_machine_0) (sX_0_0 _) dX11_machine_112 ?_
                refine lv_aload hx hb dX11_machine_115 (lv_at hl 0 rfl) ?_
                refine x_calli (va_runV (As := [.ref (ad1018 d0)]) (rest := []) ⟨hx, hb, hml, hown, hts⟩ (J_X6_addMachine l (fun c h => (x_mL hids1020 (hI c h))) hq1016o h) (cwV 1 hts gX11_machine_X6_addMachine rfl rfl rfl hdV_X6_addMachine ⟨Nat.le_of_ble_eq_true rfl, Nat.le_of_ble_eq_true rfl⟩) (x_preV (ci := 6) hK hZ hA hW (x_mL hids1020 (hI 1 (by decide))) lX_1 rfl) rfl rfl hl.1 rfl (lv_room (Nat.le_of_ble_eq_true rfl)) dX11_machine_117 ⟨Nat.le_of_ble_eq_true rfl, Nat.le_of_ble_eq_true rfl⟩) hW hA (fun r1026 σ1025 H locs h hW => ?_)
                try dsimp only at h
                refine W.widen (k := 1) (n := 9) (Nat.le_of_ble_eq_true rfl) (Nat.le_of_ble_eq_true rfl) ?_
                exact kr _ _ _ _ _ _ _ _ hW (fun c hc => (hAd1019 c (x_ne hc hq1016d)).trans ((fun _ _ => rfl) c hc)) (fun c hc => (x_mL hids1020 hc)) h dX11_machine_120
              · have h := h.2 c1015
                refine lv_bipush (v := (-4)) hx hb dX11_machine_81 (by decide) ?_
                refine W.widen (k := 1) (n := 9) (Nat.le_of_ble_eq_true rfl) (Nat.le_of_ble_eq_true rfl) ?_
                exact kr _ _ _ _ _ _ _ _ hW (fun _ _ => rfl) (fun c hc => hc) h dX11_machine_83
            · have h := h.2 c1014
              refine lv_bipush (v := (-2)) hx hb dX11_machine_66 (by decide) ?_
              refine W.widen (k := 1) (n := 9) (Nat.le_of_ble_eq_true rfl) (Nat.le_of_ble_eq_true rfl) ?_
              exact kr _ _ _ _ _ _ _ _ hW (fun _ _ => rfl) (fun c hc => hc) h dX11_machine_68
      · have h := h.2 c1005
        refine lv_bipush (v := (-2)) hx hb dX11_machine_33 (by decide) ?_
        refine W.widen (k := 1) (n := 9) (Nat.le_of_ble_eq_true rfl) (Nat.le_of_ble_eq_true rfl) ?_
        exact kr _ _ _ _ _ _ _ _ hW (fun _ _ => rfl) (fun c hc => hc) h dX11_machine_35
theorem hwX11_mostJerk_0 : (.fieldLink RX11 10 "FortyBelts" "mill" "LFortyBelts$Mill;" : Cond) ∈ wsX11_mostJerk := (List.mem_cons_of_mem _ (List.mem_append_left _ (List.mem_append_left _ (List.mem_append_left _ (List.mem_append_left _ (List.mem_append_left _ (List.mem_append_left _ (List.mem_append_left _ (List.mem_append_left _ (List.mem_append_left _ (List.mem_append_left _ (List.mem_of_getElem? (i := 0) rfl))))))))))))
theorem hwX11_mostJerk_1 : (.fieldLink RX11 145 "FortyBelts$Mill" "beltCount" "I" : Cond) ∈ wsX11_mostJerk := (List.mem_cons_of_mem _ (List.mem_append_left _ (List.mem_append_left _ (List.mem_append_left _ (List.mem_append_left _ (List.mem_append_left _ (List.mem_append_left _ (List.mem_append_left _ (List.mem_append_left _ (List.mem_append_left _ (List.mem_append_left _ (List.mem_of_getElem? (i := 1) rfl))))))))))))
theorem hwX11_mostJerk_2 : (.fieldLink RX11 163 "FortyBelts$Mill" "belts" "[LFortyBelts$Belt;" : Cond) ∈ wsX11_mostJerk := (List.mem_cons_of_mem _ (List.mem_append_left _ (List.mem_append_left _ (List.mem_append_left _ (List.mem_append_left _ (List.mem_append_left _ (List.mem_append_left _ (List.mem_append_left _ (List.mem_append_left _ (List.mem_append_left _ (List.mem_append_left _ (List.mem_of_getElem? (i := 2) rfl))))))))))))
theorem hwX11_mostJerk_3 : (.fieldLink RX11 167 "FortyBelts$Belt" "on" "Z" : Cond) ∈ wsX11_mostJerk := (List.mem_cons_of_mem _ (List.mem_append_left _ (List.mem_append_left _ (List.mem_append_left _ (List.mem_append_left _ (List.mem_append_left _ (List.mem_append_left _ (List.mem_append_left _ (List.mem_append_left _ (List.mem_append_left _ (List.mem_append_left _ (List.mem_of_getElem? (i := 3) rfl))))))))))))
theorem hwX11_mostJerk_4 : (.fieldLink RX11 185 "FortyBelts$Belt" "driven" "I" : Cond) ∈ wsX11_mostJerk := (List.mem_cons_of_mem _ (List.mem_append_left _ (List.mem_append_left _ (List.mem_append_left _ (List.mem_append_left _ (List.mem_append_left _ (List.mem_append_left _ (List.mem_append_left _ (List.mem_append_left _ (List.mem_append_left _ (List.mem_append_left _ (List.mem_of_getElem? (i := 4) rfl))))))))))))
theorem hwX11_mostJerk_5 : (.methodLink RX11 400 Lib.Math.max.name : Cond) ∈ wsX11_mostJerk := (List.mem_cons_of_mem _ (List.mem_append_left _ (List.mem_append_left _ (List.mem_append_left _ (List.mem_append_left _ (List.mem_append_left _ (List.mem_append_left _ (List.mem_append_left _ (List.mem_append_left _ (List.mem_append_left _ (List.mem_append_left _ (List.mem_of_getElem? (i := 5) rfl))))))))))))
theorem hwX11_mostJerk_6 : (.static Lib.Math.max.name : Cond) ∈ wsX11_mostJerk := (List.mem_cons_of_mem _ (List.mem_append_left _ (List.mem_append_left _ (List.mem_append_left _ (List.mem_append_left _ (List.mem_append_left _ (List.mem_append_left _ (List.mem_append_left _ (List.mem_append_left _ (List.mem_append_left _ (List.mem_append_left _ (List.mem_of_getElem? (i := 6) rfl))))))))))))
theorem hwX11_mostJerk_7 : (.initialized "java/lang/Math" : Cond) ∈ wsX11_mostJerk := (List.mem_cons_of_mem _ (List.mem_append_left _ (List.mem_append_left _ (List.mem_append_left _ (List.mem_append_left _ (List.mem_append_left _ (List.mem_append_left _ (List.mem_append_left _ (List.mem_append_left _ (List.mem_append_left _ (List.mem_append_left _ (List.mem_of_getElem? (i := 7) rfl))))))))))))
theorem hwX11_mostJerk_8 : (.code Lib.Math.max.name Lib.Math.max.code 2 (some .int) : Cond) ∈ wsX11_mostJerk := (List.mem_cons_of_mem _ (List.mem_append_left _ (List.mem_append_left _ (List.mem_append_left _ (List.mem_append_left _ (List.mem_append_left _ (List.mem_append_left _ (List.mem_append_left _ (List.mem_append_left _ (List.mem_append_left _ (List.mem_append_left _ (List.mem_of_getElem? (i := 8) rfl))))))))))))
theorem hcX11_mostJerk_X11 : ∀ w ∈ wsX110, w ∈ wsX11_mostJerk := fun _ h => (List.mem_cons_of_mem _ (List.mem_append_left _ (List.mem_append_left _ (List.mem_append_left _ (List.mem_append_left _ (List.mem_append_left _ (List.mem_append_left _ (List.mem_append_left _ (List.mem_append_left _ (List.mem_append_right _ h))))))))))
theorem hcX11_mostJerk_X6 : ∀ w ∈ wsX60, w ∈ wsX11_mostJerk := fun _ h => (List.mem_cons_of_mem _ (List.mem_append_left _ (List.mem_append_left _ (List.mem_append_left _ (List.mem_append_left _ (List.mem_append_left _ (List.mem_append_left _ (List.mem_append_left _ (List.mem_append_right _ h)))))))))
theorem hcX11_mostJerk_X0 : ∀ w ∈ wsX00, w ∈ wsX11_mostJerk := fun _ h => (List.mem_cons_of_mem _ (List.mem_append_left _ (List.mem_append_left _ (List.mem_append_left _ (List.mem_append_left _ (List.mem_append_left _ (List.mem_append_left _ (List.mem_append_right _ h))))))))
theorem hcX11_mostJerk_X1 : ∀ w ∈ wsX10, w ∈ wsX11_mostJerk := fun _ h => (List.mem_cons_of_mem _ (List.mem_append_left _ (List.mem_append_left _ (List.mem_append_left _ (List.mem_append_left _ (List.mem_append_left _ (List.mem_append_right _ h)))))))
theorem hcX11_mostJerk_X2 : ∀ w ∈ wsX20, w ∈ wsX11_mostJerk := fun _ h => (List.mem_cons_of_mem _ (List.mem_append_left _ (List.mem_append_left _ (List.mem_append_left _ (List.mem_append_left _ (List.mem_append_right _ h))))))
theorem hcX11_mostJerk_X3 : ∀ w ∈ wsX30, w ∈ wsX11_mostJerk := fun _ h => (List.mem_cons_of_mem _ (List.mem_append_left _ (List.mem_append_left _ (List.mem_append_left _ (List.mem_append_right _ h)))))
theorem hcX11_mostJerk_X4 : ∀ w ∈ wsX40, w ∈ wsX11_mostJerk := fun _ h => (List.mem_cons_of_mem _ (List.mem_append_left _ (List.mem_append_left _ (List.mem_append_right _ h))))
theorem hcX11_mostJerk_X10 : ∀ w ∈ wsX100, w ∈ wsX11_mostJerk := fun _ h => (List.mem_cons_of_mem _ (List.mem_append_left _ (List.mem_append_right _ h)))
theorem hBX11_mostJerk : xHB wsX11_mostJerk := ⟨hcX11_mostJerk_X0, hcX11_mostJerk_X1, hcX11_mostJerk_X2, hcX11_mostJerk_X3, hcX11_mostJerk_X4, hcX11_mostJerk_X10⟩
set_option maxHeartbeats 4000000 in
set_option maxRecDepth 100000 in
theorem J_X11_mostJerk {D : va_G} {KA : Nat → ClassId} {zs : ZS} {ad : Nat → Nat} {ids : List Nat} {sz : Nat} (l : Launch) (hI : ∀ c, c < 52 ∧ ¬ c = 19 → c ∈ ids)   {σ : St} {post : Int32 → St → Prop} (h : wX11_mostJerk ids  σ post) : Met l yX11_mostJerk wsX11_mostJerk rmX11_mostJerk (va_Pc [.ref (ad 0)] (xIn D KA zs layX stX ad ids sz σ)) (va_Qi post (xOut D KA layX stX ad ids) (xA ad ids sz)) 0 0 (xA ad ids sz) := by
  refine Met.ofW (cc := cX11_mostJerk) (maxL := 4) (ret := (some .int)) (by decide) rfl ?_
  intro p e s m args below meth c s₁ B hml hv
  obtain ⟨hav, hsz, hK, hZ, hP, hD⟩ := hv
  have hx := B.exec
  have hb := B.bytes
  have hr := B.returns
  have hts := atoms_spec (ws := wsX11_mostJerk) B.pre
  have hown : s.vm.findClass RX11 = some m.cls := findClass_of_methodNamed B.named
  have hlocks := B.notSynchronized
  subst hsz
  have hA : ∀ q : Nat, s.heap.size ≤ q → xA ad ids s.heap.size q := fun q h => Or.inr h
  have hW : xW D KA layX stX ad ids (xA ad ids s.heap.size) s.heap σ s.heap [] := ⟨hP, xA_D (D := D) hD, va_S.rf⟩
  have kr : ∀ (v : Int32) (σ : St) (H : Heap) (locs : List Loc) (ls : Array Slot) (pc : Nat), xW D KA layX stX ad ids (xA ad ids s.heap.size) s.heap σ H locs → post v σ → decode cX11_mostJerk pc = .ok (.ireturn, 1) → W p l e rmX11_mostJerk s m args below meth c H locs 0 0 (MQ below (va_Qi post (xOut D KA layX stX ad ids) (xA ad ids s.heap.size)) args s 0 0 (xA ad ids s.heap.size)) (F0 m pc ls [.int v]) := fun v σ H locs ls pc hW h hd => x_iret hx hb hr hlocks hW h hd
  have hl := lv_entry ([.ref (ad 0)]) (n := 4) (Nat.le_of_ble_eq_true rfl)
  rw [show entryFrame m args 4 = entryFrame m ([.ref (ad 0)] : List Value).toArray 4 from by rw [hav]]
  rw [lg_entry_eq]
  generalize (lg_sl ([.ref (ad 0)]) ++ List.replicate (4 - (lg_sl ([.ref (ad 0)])).length) Slot.unset).toArray = ls at hl ⊢
  have hl : lv_has ls 4 [(0, .ref (ad 0))] := hl
  show W p l e rmX11_mostJerk s m args below meth c s.heap [] 0 0 _ _
  generalize MQ below (va_Qi post (xOut D KA layX stX ad ids) (xA ad ids s.heap.size)) args s 0 0 (xA ad ids s.heap.size) = Q at kr ⊢
  have blk50 : ∀ (k4 : Int32 → Int32 → St → Prop) (hk4 : ∀ (x1 : Int32) (x2 : Int32) (σ : St) (H : Heap) (locs : List Loc) (ls : Array Slot), xW D KA layX stX ad ids (xA ad ids s.heap.size) s.heap σ H locs → lv_has ls 4 [(0, .ref (ad 0)), (1, .int x1), (2, .int x2)] → k4 x1 x2 σ → W p l e rmX11_mostJerk s m args below meth c H locs 0 0 Q (F0 m 4 ls [])) (x1 : Int32) (x2 : Int32) (σ : St) (H : Heap) (locs : List Loc) (ls : Array Slot), xW D KA layX stX ad ids (xA ad ids s.heap.size) s.heap σ H locs → lv_has ls 4 [(0, .ref (ad 0)), (1, .int x1), (2, .int x2)] → wX11_mostJerk_50 ids k4 post x1 x2 σ → W p l e rmX11_mostJerk s m args below meth c H locs 0 0 Q (F0 m 50 ls []) := by
    intro  k4 hk4 x1 x2 σ H locs ls hW hl h
    unfold wX11_mostJerk_50 at h
    obtain ⟨v1, hv1⟩ : ∃ y : Int32, y = x2 + (1 : Int32) := ⟨_, rfl⟩
    have h := h v1 hv1
    refine lv_iinc (v := v1) (lv' := [(2, .int v1), (0, .ref (ad 0)), (1, .int x1)]) hx hb dX11_mostJerk_50 hl (k := 2) rfl (by rw [hv1]; rfl) (by decide) rfl (fun ls hl => ?_)
    refine lv_goto (tgt := 4) hx hb dX11_mostJerk_53 (by decide) ?_
    exact hk4 x1 v1 _ _ _ _ hW (lv_sub hl [1, 2, 0] rfl) h
  have blk4 : ∀ (n : Nat) (x1 : Int32) (x2 : Int32) (σ : St) (H : Heap) (locs : List Loc) (ls : Array Slot), xW D KA layX stX ad ids (xA ad ids s.heap.size) s.heap σ H locs → lv_has ls 4 [(0, .ref (ad 0)), (1, .int x1), (2, .int x2)] → wX11_mostJerk_4 ids post  n x1 x2 σ → W p l e rmX11_mostJerk s m args below meth c H locs 0 0 Q (F0 m 4 ls []) := by
    intro    n
    induction n with
    | zero => intro x1 x2 σ H locs ls hW hl h; exact (h : False).elim
    | succ n ih =>
      intro x1 x2 σ H locs ls hW hl h
      have hk4 : ∀ (x1 : Int32) (x2 : Int32) (σ : St) (H : Heap) (locs : List Loc) (ls : Array Slot), xW D KA layX stX ad ids (xA ad ids s.heap.size) s.heap σ H locs → lv_has ls 4 [(0, .ref (ad 0)), (1, .int x1), (2, .int x2)] → (wX11_mostJerk_4 ids post  n) x1 x2 σ → W p l e rmX11_mostJerk s m args below meth c H locs 0 0 Q (F0 m 4 ls []) := fun x1 x2 σ H locs ls hW hl h => ih x1 x2 σ H locs ls hW hl h
      rw [wX11_mostJerk_4_s] at h
      try dsimp only at h
      generalize wX11_mostJerk_4 ids post  n = k4 at h hk4
      refine lv_iload_n hx hb dX11_mostJerk_4 rfl (lv_at hl 2 rfl) ?_
      refine lv_aload_n hx hb dX11_mostJerk_5 rfl (lv_at hl 0 rfl) ?_
      refine xgX11_0r hx hb hts hown hK hW 0 hcX11_mostJerk_X11 (hI 0 (by decide)) lX_0 (hts _ hwX11_mostJerk_0) (sX_0_0 _) dX11_mostJerk_6 ?_
      refine xgX6_3 hx hb hts hown hK hW 1 hcX11_mostJerk_X6 (hI 1 (by decide)) lX_1 (hts _ hwX11_mostJerk_1) dX11_mostJerk_9 ?_
      refine lv_icmp_ge (tgt := 56) hx hb dX11_mostJerk_12 (by decide) (fun c2 => ?_) (fun c2 => ?_)
      · have h := h.1 c2
        refine lv_iload_n hx hb dX11_mostJerk_56 rfl (lv_at hl 1 rfl) ?_
        exact kr _ _ _ _ _ _ hW h dX11_mostJerk_57
      · have h := h.2 c2
        refine lv_aload_n hx hb dX11_mostJerk_15 rfl (lv_at hl 0 rfl) ?_
        refine xgX11_0r hx hb hts hown hK hW 0 hcX11_mostJerk_X11 (hI 0 (by decide)) lX_0 (hts _ hwX11_mostJerk_0) (sX_0_0 _) dX11_mostJerk_16 ?_
        refine xgX6_12r hx hb hts hown hK hW 1 hcX11_mostJerk_X6 (hI 1 (by decide)) lX_1 (hts _ hwX11_mostJerk_2) (sX_1_12 _) dX11_mostJerk_19 ?_
        refine lv_iload_n hx hb dX11_mostJerk_22 rfl (lv_at hl 2 rfl) ?_
        obtain ⟨hi3, h⟩ := h
        obtain ⟨o4, hr5, ok_o4, h⟩ := h
        refine x_ald hx hb hK hW 11 0 (hI 11 (by decide)) lX_11 rfl hi3 ((sX_11 _ _).trans hr5) dX11_mostJerk_23 ?_
        refine lv_astore_n (lv' := [(3, .ref (ad o4)), (0, .ref (ad 0)), (1, .int x1), (2, .int x2)]) hx hb dX11_mostJerk_24 rfl hl (by decide) rfl (fun ls hl => ?_)
        refine lv_aload_n hx hb dX11_mostJerk_25 rfl (lv_at hl 0 rfl) ?_
        refine xgB_8 hx hb hts hown hK hW o4 hBX11_mostJerk ok_o4 (hts _ hwX11_mostJerk_3) (fun _ h => h) dX11_mostJerk_26 ?_
        refine lv_if_eq (tgt := 50) hx hb dX11_mostJerk_29 (by decide) (fun c6 => ?_) (fun c6 => ?_)
        · have h := h.1 c6
          exact blk50  k4 hk4 x1 x2 _ _ _ _ hW (lv_sub hl [1, 2, 3] rfl) h
        · have h := h.2 c6
          refine lv_iload_n hx hb dX11_mostJerk_32 rfl (lv_at hl 2 rfl) ?_
          refine lv_aload_n hx hb dX11_mostJerk_33 rfl (lv_at hl 1 rfl) ?_
          refine xgX11_0r hx hb hts hown hK hW 0 hcX11_mostJerk_X11 (hI 0 (by decide)) lX_0 (hts _ hwX11_mostJerk_0) (sX_0_0 _) dX11_mostJerk_34 ?_
          refine lv_iconst (v := 1) hx hb dX11_mostJerk_37 (by decide) ?_
          refine lv_aload_n hx hb dX11_mostJerk_38 rfl (lv_at hl 0 rfl) ?_
          refine xgB_2 hx hb hts hown hK hW o4 hBX11_mostJerk ok_o4 (hts _ hwX11_mostJerk_4) (fun _ h => h) dX11_mostJerk_39 ?_
          refine lv_ishl hx hb dX11_mostJerk_42 ?_
          refine x_calli (va_runV (As := [.int ((1 : Int32) <<< ((gI σ o4 2) &&& 31))]) (rest := [.int x1]) ⟨hx, hb, hml, hown, hts⟩ (J_X6_loadedOn l hI h) (cwV 1 hts gX11_mostJerk_X6_loadedOn rfl rfl rfl hdV_X6_loadedOn ⟨Nat.le_of_ble_eq_true rfl, Nat.le_of_ble_eq_true rfl⟩) (x_preV (ci := 6) hK hZ hA hW (hI 1 (by decide)) lX_1 rfl) rfl rfl hl.1 rfl (lv_room (Nat.le_of_ble_eq_true rfl)) dX11_mostJerk_43 ⟨Nat.zero_le _, Nat.zero_le _⟩) hW hA (fun r8 σ7 H locs h hW => ?_)
          try dsimp only at h
          refine va_mmax hx hb (hml.trans hl.1.symm) hown (hts _ hwX11_mostJerk_5) (hts _ hwX11_mostJerk_6) (hts _ hwX11_mostJerk_7) (hts _ hwX11_mostJerk_8) (Nat.le_of_ble_eq_true rfl) (Nat.le_of_ble_eq_true rfl) (Nat.le_of_ble_eq_true rfl) (Nat.le_of_ble_eq_true rfl) dX11_mostJerk_46 ?_
          refine lv_topi (fun v9 hv9 => ?_)
          have h := h v9 hv9
          refine lv_istore_n (lv' := [(1, .int v9), (3, .ref (ad o4)), (0, .ref (ad 0)), (2, .int x2)]) hx hb dX11_mostJerk_49 rfl hl (by decide) rfl (fun ls hl => ?_)
          exact blk50  k4 hk4 v9 x2 _ _ _ _ hW (lv_sub hl [2, 0, 3] rfl) h
  have main : ∀ (H : Heap) (locs : List Loc) (ls : Array Slot), xW D KA layX stX ad ids (xA ad ids s.heap.size) s.heap σ H locs → lv_has ls 4 [(0, .ref (ad 0))] → W p l e rmX11_mostJerk s m args below meth c H locs 0 0 Q (F0 m 0 ls []) := by
    intro H locs ls hW hl
    unfold wX11_mostJerk at h
    refine lv_iconst (v := 0) hx hb dX11_mostJerk_0 (by decide) ?_
    refine lv_istore_n (lv' := [(1, .int (0 : Int32)), (0, .ref (ad 0))]) hx hb dX11_mostJerk_1 rfl hl (by decide) rfl (fun ls hl => ?_)
    refine lv_iconst (v := 0) hx hb dX11_mostJerk_2 (by decide) ?_
    refine lv_istore_n (lv' := [(2, .int (0 : Int32)), (1, .int (0 : Int32)), (0, .ref (ad 0))]) hx hb dX11_mostJerk_3 rfl hl (by decide) rfl (fun ls hl => ?_)
    obtain ⟨n, h⟩ := h
    exact blk4    n (0 : Int32) (0 : Int32) _ _ _ _ hW (lv_sub hl [2, 1, 0] rfl) h
  exact main _ _ _ hW hl
theorem hwX11_off_0 : (.fieldLink RX11 10 "FortyBelts" "mill" "LFortyBelts$Mill;" : Cond) ∈ wsX11_off := (List.mem_cons_of_mem _ (List.mem_append_left _ (List.mem_append_left _ (List.mem_append_left _ (List.mem_append_left _ (List.mem_append_left _ (List.mem_append_left _ (List.mem_append_left _ (List.mem_append_left _ (List.mem_append_left _ (List.mem_append_left _ (List.mem_of_getElem? (i := 0) rfl))))))))))))
theorem hwX11_off_1 : (.fieldLink RX11 163 "FortyBelts$Mill" "belts" "[LFortyBelts$Belt;" : Cond) ∈ wsX11_off := (List.mem_cons_of_mem _ (List.mem_append_left _ (List.mem_append_left _ (List.mem_append_left _ (List.mem_append_left _ (List.mem_append_left _ (List.mem_append_left _ (List.mem_append_left _ (List.mem_append_left _ (List.mem_append_left _ (List.mem_append_left _ (List.mem_of_getElem? (i := 1) rfl))))))))))))
theorem hcX11_off_X11 : ∀ w ∈ wsX110, w ∈ wsX11_off := fun _ h => (List.mem_cons_of_mem _ (List.mem_append_left _ (List.mem_append_left _ (List.mem_append_left _ (List.mem_append_left _ (List.mem_append_left _ (List.mem_append_left _ (List.mem_append_left _ (List.mem_append_left _ (List.mem_append_right _ h))))))))))
theorem hcX11_off_X6 : ∀ w ∈ wsX60, w ∈ wsX11_off := fun _ h => (List.mem_cons_of_mem _ (List.mem_append_left _ (List.mem_append_left _ (List.mem_append_left _ (List.mem_append_left _ (List.mem_append_left _ (List.mem_append_left _ (List.mem_append_left _ (List.mem_append_right _ h)))))))))
set_option maxHeartbeats 4000000 in
set_option maxRecDepth 100000 in
theorem J_X11_off {D : va_G} {KA : Nat → ClassId} {zs : ZS} {ad : Nat → Nat} {ids : List Nat} {sz : Nat} (l : Launch) (hI : ∀ c, c < 52 ∧ ¬ c = 19 → c ∈ ids) {a1 : Int32}  {σ : St} {post : Int32 → St → Prop} (h : wX11_off ids a1 σ post) : Met l yX11_off wsX11_off rmX11_off (va_Pc [.ref (ad 0), .int a1] (xIn D KA zs layX stX ad ids sz σ)) (va_Qi post (xOut D KA layX stX ad ids) (xA ad ids sz)) 0 0 (xA ad ids sz) := by
  refine Met.ofW (cc := cX11_off) (maxL := 2) (ret := (some .int)) (by decide) rfl ?_
  intro p e s m args below meth c s₁ B hml hv
  obtain ⟨hav, hsz, hK, hZ, hP, hD⟩ := hv
  have hx := B.exec
  have hb := B.bytes
  have hr := B.returns
  have hts := atoms_spec (ws := wsX11_off) B.pre
  have hown : s.vm.findClass RX11 = some m.cls := findClass_of_methodNamed B.named
  have hlocks := B.notSynchronized
  subst hsz
  have hA : ∀ q : Nat, s.heap.size ≤ q → xA ad ids s.heap.size q := fun q h => Or.inr h
  have hW : xW D KA layX stX ad ids (xA ad ids s.heap.size) s.heap σ s.heap [] := ⟨hP, xA_D (D := D) hD, va_S.rf⟩
  have kr : ∀ (v : Int32) (σ : St) (H : Heap) (locs : List Loc) (ls : Array Slot) (pc : Nat), xW D KA layX stX ad ids (xA ad ids s.heap.size) s.heap σ H locs → post v σ → decode cX11_off pc = .ok (.ireturn, 1) → W p l e rmX11_off s m args below meth c H locs 0 0 (MQ below (va_Qi post (xOut D KA layX stX ad ids) (xA ad ids s.heap.size)) args s 0 0 (xA ad ids s.heap.size)) (F0 m pc ls [.int v]) := fun v σ H locs ls pc hW h hd => x_iret hx hb hr hlocks hW h hd
  have hl := lv_entry ([.ref (ad 0), .int a1]) (n := 2) (Nat.le_of_ble_eq_true rfl)
  rw [show entryFrame m args 2 = entryFrame m ([.ref (ad 0), .int a1] : List Value).toArray 2 from by rw [hav]]
  rw [lg_entry_eq]
  generalize (lg_sl ([.ref (ad 0), .int a1]) ++ List.replicate (2 - (lg_sl ([.ref (ad 0), .int a1])).length) Slot.unset).toArray = ls at hl ⊢
  have hl : lv_has ls 2 [(0, .ref (ad 0)), (1, .int a1)] := hl
  show W p l e rmX11_off s m args below meth c s.heap [] 0 0 _ _
  generalize MQ below (va_Qi post (xOut D KA layX stX ad ids) (xA ad ids s.heap.size)) args s 0 0 (xA ad ids s.heap.size) = Q at kr ⊢
  have blk26 : ∀ (s0 : Int32) (σ : St) (H : Heap) (locs : List Loc) (ls : Array Slot), xW D KA layX stX ad ids (xA ad ids s.heap.size) s.heap σ H locs → lv_has ls 2 [] → wX11_off_26 ids post s0 σ → W p l e rmX11_off s m args below meth c H locs 0 0 Q (F0 m 26 ls [.int s0]) := by
    intro   s0 σ H locs ls hW hl h
    unfold wX11_off_26 at h
    exact kr _ _ _ _ _ _ hW h dX11_off_26
  have main : ∀ (H : Heap) (locs : List Loc) (ls : Array Slot), xW D KA layX stX ad ids (xA ad ids s.heap.size) s.heap σ H locs → lv_has ls 2 [(0, .ref (ad 0)), (1, .int a1)] → W p l e rmX11_off s m args below meth c H locs 0 0 Q (F0 m 0 ls []) := by
    intro H locs ls hW hl
    unfold wX11_off at h
    refine lv_aload_n hx hb dX11_off_0 rfl (lv_at hl 0 rfl) ?_
    refine lv_iload_n hx hb dX11_off_1 rfl (lv_at hl 1 rfl) ?_
    refine x_calli (va_runV (As := [.int a1]) (rest := []) ⟨hx, hb, hml, hown, hts⟩ (J_X11_isBelt l hI h) (cwV 1 hts gX11_off_X11_isBelt rfl rfl rfl hdV_X11_isBelt ⟨Nat.le_of_ble_eq_true rfl, Nat.le_of_ble_eq_true rfl⟩) (x_preV (ci := 11) hK hZ hA hW (hI 0 (by decide)) lX_0 rfl) rfl rfl hl.1 rfl (lv_room (Nat.le_of_ble_eq_true rfl)) dX11_off_2 ⟨Nat.zero_le _, Nat.zero_le _⟩) hW hA (fun r1002 σ1001 H locs h hW => ?_)
    try dsimp only at h
    refine lv_if_eq (tgt := 24) hx hb dX11_off_5 (by decide) (fun c1003 => ?_) (fun c1003 => ?_)
    · have h := h.1 c1003
      refine lv_bipush (v := (-2)) hx hb dX11_off_24 (by decide) ?_
      exact blk26   (-2 : Int32) _ _ _ _ hW (lv_sub hl [] rfl) h
    · have h := h.2 c1003
      refine lv_aload_n hx hb dX11_off_8 rfl (lv_at hl 0 rfl) ?_
      refine lv_aload_n hx hb dX11_off_9 rfl (lv_at hl 0 rfl) ?_
      refine xgX11_0r hx hb hts hown hK hW 0 hcX11_off_X11 (hI 0 (by decide)) lX_0 (hts _ hwX11_off_0) (sX_0_0 _) dX11_off_10 ?_
      refine xgX6_12r hx hb hts hown hK hW 1 hcX11_off_X6 (hI 1 (by decide)) lX_1 (hts _ hwX11_off_1) (sX_1_12 _) dX11_off_13 ?_
      refine lv_iload_n hx hb dX11_off_16 rfl (lv_at hl 1 rfl) ?_
      obtain ⟨hi1004, h⟩ := h
      obtain ⟨o1005, hr1006, ok_o1005, h⟩ := h
      refine x_ald hx hb hK hW 11 0 (hI 11 (by decide)) lX_11 rfl hi1004 ((sX_11 _ _).trans hr1006) dX11_off_17 ?_
      refine x_calli (va_runV (As := [.ref (ad o1005)]) (rest := []) ⟨hx, hb, hml, hown, hts⟩ (J_X11_stoppedBy l hI ok_o1005 h) (cwV 1 hts gX11_off_X11_stoppedBy rfl rfl rfl hdV_X11_stoppedBy ⟨Nat.le_of_ble_eq_true rfl, Nat.le_of_ble_eq_true rfl⟩) (x_preV (ci := 11) hK hZ hA hW (hI 0 (by decide)) lX_0 rfl) rfl rfl hl.1 rfl (lv_room (Nat.le_of_ble_eq_true rfl)) dX11_off_18 ⟨Nat.zero_le _, Nat.zero_le _⟩) hW hA (fun r1008 σ1007 H locs h hW => ?_)
      try dsimp only at h
      refine lv_goto (tgt := 26) hx hb dX11_off_21 (by decide) ?_
      exact blk26   r1008 _ _ _ _ hW (lv_sub hl [] rfl) h
  exact main _ _ _ hW hl
theorem hwX11_runs_0 : (.fieldLink RX11 10 "FortyBelts" "mill" "LFortyBelts$Mill;" : Cond) ∈ wsX11_runs := (List.mem_cons_of_mem _ (List.mem_append_left _ (List.mem_append_left _ (List.mem_append_left _ (List.mem_append_left _ (List.mem_append_left _ (List.mem_append_left _ (List.mem_append_left _ (List.mem_append_left _ (List.mem_append_left _ (List.mem_append_left _ (List.mem_of_getElem? (i := 0) rfl))))))))))))
theorem hcX11_runs_X11 : ∀ w ∈ wsX110, w ∈ wsX11_runs := fun _ h => (List.mem_cons_of_mem _ (List.mem_append_left _ (List.mem_append_left _ (List.mem_append_left _ (List.mem_append_left _ (List.mem_append_left _ (List.mem_append_left _ (List.mem_append_left _ (List.mem_append_left _ (List.mem_append_right _ h))))))))))
set_option maxHeartbeats 4000000 in
set_option maxRecDepth 100000 in
theorem J_X11_runs {D : va_G} {KA : Nat → ClassId} {zs : ZS} {ad : Nat → Nat} {ids : List Nat} {sz : Nat} (l : Launch) (hI : ∀ c, c < 52 ∧ ¬ c = 19 → c ∈ ids) {a1 : Int32}  {σ : St} {post : Int32 → St → Prop} (h : wX11_runs ids a1 σ post) : Met l yX11_runs wsX11_runs rmX11_runs (va_Pc [.ref (ad 0), .int a1] (xIn D KA zs layX stX ad ids sz σ)) (va_Qi post (xOut D KA layX stX ad ids) (xA ad ids sz)) 0 0 (xA ad ids sz) := by
  refine Met.ofW (cc := cX11_runs) (maxL := 2) (ret := (some .int)) (by decide) rfl ?_
  intro p e s m args below meth c s₁ B hml hv
  obtain ⟨hav, hsz, hK, hZ, hP, hD⟩ := hv
  have hx := B.exec
  have hb := B.bytes
  have hr := B.returns
  have hts := atoms_spec (ws := wsX11_runs) B.pre
  have hown : s.vm.findClass RX11 = some m.cls := findClass_of_methodNamed B.named
  have hlocks := B.notSynchronized
  subst hsz
  have hA : ∀ q : Nat, s.heap.size ≤ q → xA ad ids s.heap.size q := fun q h => Or.inr h
  have hW : xW D KA layX stX ad ids (xA ad ids s.heap.size) s.heap σ s.heap [] := ⟨hP, xA_D (D := D) hD, va_S.rf⟩
  have kr : ∀ (v : Int32) (σ : St) (H : Heap) (locs : List Loc) (ls : Array Slot) (pc : Nat), xW D KA layX stX ad ids (xA ad ids s.heap.size) s.heap σ H locs → post v σ → decode cX11_runs pc = .ok (.ireturn, 1) → W p l e rmX11_runs s m args below meth c H locs 0 0 (MQ below (va_Qi post (xOut D KA layX stX ad ids) (xA ad ids s.heap.size)) args s 0 0 (xA ad ids s.heap.size)) (F0 m pc ls [.int v]) := fun v σ H locs ls pc hW h hd => x_iret hx hb hr hlocks hW h hd
  have hl := lv_entry ([.ref (ad 0), .int a1]) (n := 2) (Nat.le_of_ble_eq_true rfl)
  rw [show entryFrame m args 2 = entryFrame m ([.ref (ad 0), .int a1] : List Value).toArray 2 from by rw [hav]]
  rw [lg_entry_eq]
  generalize (lg_sl ([.ref (ad 0), .int a1]) ++ List.replicate (2 - (lg_sl ([.ref (ad 0), .int a1])).length) Slot.unset).toArray = ls at hl ⊢
  have hl : lv_has ls 2 [(0, .ref (ad 0)), (1, .int a1)] := hl
  show W p l e rmX11_runs s m args below meth c s.heap [] 0 0 _ _
  generalize MQ below (va_Qi post (xOut D KA layX stX ad ids) (xA ad ids s.heap.size)) args s 0 0 (xA ad ids s.heap.size) = Q at kr ⊢
  have main : ∀ (H : Heap) (locs : List Loc) (ls : Array Slot), xW D KA layX stX ad ids (xA ad ids s.heap.size) s.heap σ H locs → lv_has ls 2 [(0, .ref (ad 0)), (1, .int a1)] → W p l e rmX11_runs s m args below meth c H locs 0 0 Q (F0 m 0 ls []) := by
    intro H locs ls hW hl
    unfold wX11_runs at h
    refine lv_aload_n hx hb dX11_runs_0 rfl (lv_at hl 0 rfl) ?_
    refine xgX11_0r hx hb hts hown hK hW 0 hcX11_runs_X11 (hI 0 (by decide)) lX_0 (hts _ hwX11_runs_0) (sX_0_0 _) dX11_runs_1 ?_
    refine x_callv (va_runV (As := []) (rest := []) ⟨hx, hb, hml, hown, hts⟩ (J_X6_spin l hI h) (cwV 0 hts gX11_runs_X6_spin rfl rfl rfl hdV_X6_spin ⟨Nat.le_of_ble_eq_true rfl, Nat.le_of_ble_eq_true rfl⟩) (x_preV (ci := 6) hK hZ hA hW (hI 1 (by decide)) lX_1 rfl) rfl rfl hl.1 rfl (lv_room (Nat.le_of_ble_eq_true rfl)) dX11_runs_4 ⟨Nat.zero_le _, Nat.zero_le _⟩) hW hA (fun σ1001 H locs h hW => ?_)
    try dsimp only at h
    refine lv_iload_n hx hb dX11_runs_7 rfl (lv_at hl 1 rfl) ?_
    refine lv_topi (fun v1002 hv1002 => ?_)
    have h := h v1002 hv1002
    obtain ⟨hcase, h⟩ := h
    by_cases hc8_0 : v1002 = (0 : Int32)
    · have h := hcase hc8_0
      clear hcase
      refine lv_tableIn (tgt := 36) hx hb dX11_runs_8 (by rw [hc8_0] <;> decide) (by rw [hc8_0] <;> decide) (by rw [hc8_0]; rfl) (by decide) ?_
      refine lv_aload_n hx hb dX11_runs_36 rfl (lv_at hl 0 rfl) ?_
      refine xgX11_0r hx hb hts hown hK hW 0 hcX11_runs_X11 (hI 0 (by decide)) lX_0 (hts _ hwX11_runs_0) (sX_0_0 _) dX11_runs_37 ?_
      refine x_calli (va_runV (As := []) (rest := []) ⟨hx, hb, hml, hown, hts⟩ (J_X6_wellRunning l hI h) (cwV 0 hts gX11_runs_X6_wellRunning rfl rfl rfl hdV_X6_wellRunning ⟨Nat.le_of_ble_eq_true rfl, Nat.le_of_ble_eq_true rfl⟩) (x_preV (ci := 6) hK hZ hA hW (hI 1 (by decide)) lX_1 rfl) rfl rfl hl.1 rfl (lv_room (Nat.le_of_ble_eq_true rfl)) dX11_runs_40 ⟨Nat.zero_le _, Nat.zero_le _⟩) hW hA (fun r1004 σ1003 H locs h hW => ?_)
      try dsimp only at h
      exact kr _ _ _ _ _ _ hW h dX11_runs_43
    clear hcase
    obtain ⟨hcase, h⟩ := h
    by_cases hc8_1 : v1002 = (1 : Int32)
    · have h := hcase hc8_1
      clear hcase
      refine lv_tableIn (tgt := 44) hx hb dX11_runs_8 (by rw [hc8_1] <;> decide) (by rw [hc8_1] <;> decide) (by rw [hc8_1]; rfl) (by decide) ?_
      refine lv_aload_n hx hb dX11_runs_44 rfl (lv_at hl 0 rfl) ?_
      refine xgX11_0r hx hb hts hown hK hW 0 hcX11_runs_X11 (hI 0 (by decide)) lX_0 (hts _ hwX11_runs_0) (sX_0_0 _) dX11_runs_45 ?_
      refine x_calli (va_runV (As := []) (rest := []) ⟨hx, hb, hml, hown, hts⟩ (J_X6_turning l hI h) (cwV 0 hts gX11_runs_X6_turning rfl rfl rfl hdV_X6_turning ⟨Nat.le_of_ble_eq_true rfl, Nat.le_of_ble_eq_true rfl⟩) (x_preV (ci := 6) hK hZ hA hW (hI 1 (by decide)) lX_1 rfl) rfl rfl hl.1 rfl (lv_room (Nat.le_of_ble_eq_true rfl)) dX11_runs_48 ⟨Nat.zero_le _, Nat.zero_le _⟩) hW hA (fun r1006 σ1005 H locs h hW => ?_)
      try dsimp only at h
      exact kr _ _ _ _ _ _ hW h dX11_runs_51
    clear hcase
    obtain ⟨hcase, h⟩ := h
    by_cases hc8_2 : v1002 = (2 : Int32)
    · have h := hcase hc8_2
      clear hcase
      refine lv_tableIn (tgt := 52) hx hb dX11_runs_8 (by rw [hc8_2] <;> decide) (by rw [hc8_2] <;> decide) (by rw [hc8_2]; rfl) (by decide) ?_
      refine lv_aload_n hx hb dX11_runs_52 rfl (lv_at hl 0 rfl) ?_
      refine xgX11_0r hx hb hts hown hK hW 0 hcX11_runs_X11 (hI 0 (by decide)) lX_0 (hts _ hwX11_runs_0) (sX_0_0 _) dX11_runs_53 ?_
      refine x_calli (va_runV (As := []) (rest := []) ⟨hx, hb, hml, hown, hts⟩ (J_X6_loadedInAll l hI h) (cwV 0 hts gX11_runs_X6_loadedInAll rfl rfl rfl hdV_X6_loadedInAll ⟨Nat.le_of_ble_eq_true rfl, Nat.le_of_ble_eq_true rfl⟩) (x_preV (ci := 6) hK hZ hA hW (hI 1 (by decide)) lX_1 rfl) rfl rfl hl.1 rfl (lv_room (Nat.le_of_ble_eq_true rfl)) dX11_runs_56 ⟨Nat.zero_le _, Nat.zero_le _⟩) hW hA (fun r1008 σ1007 H locs h hW => ?_)
      try dsimp only at h
      exact kr _ _ _ _ _ _ hW h dX11_runs_59
    clear hcase
    have h := h ⟨hc8_0, hc8_1, hc8_2⟩
    refine lv_tableOut (tgt := 60) hx hb dX11_runs_8 (tsw_out v1002 (0) (2) (fun k h1 h2 => ?_)) (by decide) ?_
    · rcases (show k = 0 ∨ k = 1 ∨ k = 2 by omega) with rfl | rfl | rfl
      · exact hc8_0
      · exact hc8_1
      · exact hc8_2
    refine lv_bipush (v := (-2)) hx hb dX11_runs_60 (by decide) ?_
    exact kr _ _ _ _ _ _ hW h dX11_runs_62
  exact main _ _ _ hW hl
theorem hwX11_save_0 : (.fieldLink RX11 10 "FortyBelts" "mill" "LFortyBelts$Mill;" : Cond) ∈ wsX11_save := (List.mem_cons_of_mem _ (List.mem_append_left _ (List.mem_append_left _ (List.mem_append_left _ (List.mem_append_left _ (List.mem_append_left _ (List.mem_append_left _ (List.mem_append_left _ (List.mem_append_left _ (List.mem_append_left _ (List.mem_append_left _ (List.mem_of_getElem? (i := 0) rfl))))))))))))
theorem hwX11_save_1 : (.fieldLink RX11 75 "FortyBelts$Mill" "shaftCount" "I" : Cond) ∈ wsX11_save := (List.mem_cons_of_mem _ (List.mem_append_left _ (List.mem_append_left _ (List.mem_append_left _ (List.mem_append_left _ (List.mem_append_left _ (List.mem_append_left _ (List.mem_append_left _ (List.mem_append_left _ (List.mem_append_left _ (List.mem_append_left _ (List.mem_of_getElem? (i := 1) rfl))))))))))))
theorem hwX11_save_2 : (.fieldLink RX11 215 "FortyBelts$Mill" "above" "[J" : Cond) ∈ wsX11_save := (List.mem_cons_of_mem _ (List.mem_append_left _ (List.mem_append_left _ (List.mem_append_left _ (List.mem_append_left _ (List.mem_append_left _ (List.mem_append_left _ (List.mem_append_left _ (List.mem_append_left _ (List.mem_append_left _ (List.mem_append_left _ (List.mem_of_getElem? (i := 2) rfl))))))))))))
theorem hcX11_save_X11 : ∀ w ∈ wsX110, w ∈ wsX11_save := fun _ h => (List.mem_cons_of_mem _ (List.mem_append_left _ (List.mem_append_left _ (List.mem_append_left _ (List.mem_append_left _ (List.mem_append_left _ (List.mem_append_left _ (List.mem_append_left _ (List.mem_append_left _ (List.mem_append_right _ h))))))))))
theorem hcX11_save_X6 : ∀ w ∈ wsX60, w ∈ wsX11_save := fun _ h => (List.mem_cons_of_mem _ (List.mem_append_left _ (List.mem_append_left _ (List.mem_append_left _ (List.mem_append_left _ (List.mem_append_left _ (List.mem_append_left _ (List.mem_append_left _ (List.mem_append_right _ h)))))))))
set_option maxHeartbeats 4000000 in
set_option maxRecDepth 100000 in
theorem J_X11_save {D : va_G} {KA : Nat → ClassId} {zs : ZS} {ad : Nat → Nat} {ids : List Nat} {sz : Nat} (l : Launch) (hI : ∀ c, c < 52 ∧ ¬ c = 19 → c ∈ ids)   {σ : St} {post : Int32 → St → Prop} (h : wX11_save ids  σ post) : Met l yX11_save wsX11_save rmX11_save (va_Pc [.ref (ad 0)] (xIn D KA zs layX stX ad ids sz σ)) (va_Qi post (xOut D KA layX stX ad ids) (xA ad ids sz)) 0 0 (xA ad ids sz) := by
  refine Met.ofW (cc := cX11_save) (maxL := 3) (ret := (some .int)) (by decide) rfl ?_
  intro p e s m args below meth c s₁ B hml hv
  obtain ⟨hav, hsz, hK, hZ, hP, hD⟩ := hv
  have hx := B.exec
  have hb := B.bytes
  have hr := B.returns
  have hts := atoms_spec (ws := wsX11_save) B.pre
  have hown : s.vm.findClass RX11 = some m.cls := findClass_of_methodNamed B.named
  have hlocks := B.notSynchronized
  subst hsz
  have hA : ∀ q : Nat, s.heap.size ≤ q → xA ad ids s.heap.size q := fun q h => Or.inr h
  have hW : xW D KA layX stX ad ids (xA ad ids s.heap.size) s.heap σ s.heap [] := ⟨hP, xA_D (D := D) hD, va_S.rf⟩
  have kr : ∀ (v : Int32) (σ : St) (H : Heap) (locs : List Loc) (ls : Array Slot) (pc : Nat), xW D KA layX stX ad ids (xA ad ids s.heap.size) s.heap σ H locs → post v σ → decode cX11_save pc = .ok (.ireturn, 1) → W p l e rmX11_save s m args below meth c H locs 0 0 (MQ below (va_Qi post (xOut D KA layX stX ad ids) (xA ad ids s.heap.size)) args s 0 0 (xA ad ids s.heap.size)) (F0 m pc ls [.int v]) := fun v σ H locs ls pc hW h hd => x_iret hx hb hr hlocks hW h hd
  have hl := lv_entry ([.ref (ad 0)]) (n := 3) (Nat.le_of_ble_eq_true rfl)
  rw [show entryFrame m args 3 = entryFrame m ([.ref (ad 0)] : List Value).toArray 3 from by rw [hav]]
  rw [lg_entry_eq]
  generalize (lg_sl ([.ref (ad 0)]) ++ List.replicate (3 - (lg_sl ([.ref (ad 0)])).length) Slot.unset).toArray = ls at hl ⊢
  have hl : lv_has ls 3 [(0, .ref (ad 0))] := hl
  show W p l e rmX11_save s m args below meth c s.heap [] 0 0 _ _
  generalize MQ below (va_Qi post (xOut D KA layX stX ad ids) (xA ad ids s.heap.size)) args s 0 0 (xA ad ids s.heap.size) = Q at kr ⊢
  have blk60 : ∀ (k11 : Int32 → Int32 → St → Prop) (hk11 : ∀ (x1 : Int32) (x2 : Int32) (σ : St) (H : Heap) (locs : List Loc) (ls : Array Slot), xW D KA layX stX ad ids (xA ad ids s.heap.size) s.heap σ H locs → lv_has ls 3 [(0, .ref (ad 0)), (1, .int x1), (2, .int x2)] → k11 x1 x2 σ → W p l e rmX11_save s m args below meth c H locs 0 0 Q (F0 m 11 ls [])) (x1 : Int32) (x2 : Int32) (σ : St) (H : Heap) (locs : List Loc) (ls : Array Slot), xW D KA layX stX ad ids (xA ad ids s.heap.size) s.heap σ H locs → lv_has ls 3 [(0, .ref (ad 0)), (1, .int x1), (2, .int x2)] → wX11_save_60 ids k11 post x1 x2 σ → W p l e rmX11_save s m args below meth c H locs 0 0 Q (F0 m 60 ls []) := by
    intro  k11 hk11 x1 x2 σ H locs ls hW hl h
    unfold wX11_save_60 at h
    obtain ⟨v1, hv1⟩ : ∃ y : Int32, y = x2 + (1 : Int32) := ⟨_, rfl⟩
    have h := h v1 hv1
    refine lv_iinc (v := v1) (lv' := [(2, .int v1), (0, .ref (ad 0)), (1, .int x1)]) hx hb dX11_save_60 hl (k := 2) rfl (by rw [hv1]; rfl) (by decide) rfl (fun ls hl => ?_)
    refine lv_goto (tgt := 11) hx hb dX11_save_63 (by decide) ?_
    exact hk11 x1 v1 _ _ _ _ hW (lv_sub hl [1, 2, 0] rfl) h
  have blk11 : ∀ (n : Nat) (x1 : Int32) (x2 : Int32) (σ : St) (H : Heap) (locs : List Loc) (ls : Array Slot), xW D KA layX stX ad ids (xA ad ids s.heap.size) s.heap σ H locs → lv_has ls 3 [(0, .ref (ad 0)), (1, .int x1), (2, .int x2)] → wX11_save_11 ids post  n x1 x2 σ → W p l e rmX11_save s m args below meth c H locs 0 0 Q (F0 m 11 ls []) := by
    intro    n
    induction n with
    | zero => intro x1 x2 σ H locs ls hW hl h; exact (h : False).elim
    | succ n ih =>
      intro x1 x2 σ H locs ls hW hl h
      have hk11 : ∀ (x1 : Int32) (x2 : Int32) (σ : St) (H : Heap) (locs : List Loc) (ls : Array Slot), xW D KA layX stX ad ids (xA ad ids s.heap.size) s.heap σ H locs → lv_has ls 3 [(0, .ref (ad 0)), (1, .int x1), (2, .int x2)] → (wX11_save_11 ids post  n) x1 x2 σ → W p l e rmX11_save s m args below meth c H locs 0 0 Q (F0 m 11 ls []) := fun x1 x2 σ H locs ls hW hl h => ih x1 x2 σ H locs ls hW hl h
      rw [wX11_save_11_s] at h
      try dsimp only at h
      generalize wX11_save_11 ids post  n = k11 at h hk11
      refine lv_iload_n hx hb dX11_save_11 rfl (lv_at hl 2 rfl) ?_
      refine lv_aload_n hx hb dX11_save_12 rfl (lv_at hl 0 rfl) ?_
      refine xgX11_0r hx hb hts hown hK hW 0 hcX11_save_X11 (hI 0 (by decide)) lX_0 (hts _ hwX11_save_0) (sX_0_0 _) dX11_save_13 ?_
      refine xgX6_0 hx hb hts hown hK hW 1 hcX11_save_X6 (hI 1 (by decide)) lX_1 (hts _ hwX11_save_1) dX11_save_16 ?_
      refine lv_icmp_ge (tgt := 66) hx hb dX11_save_19 (by decide) (fun c2 => ?_) (fun c2 => ?_)
      · have h := h.1 c2
        refine lv_iload_n hx hb dX11_save_66 rfl (lv_at hl 1 rfl) ?_
        exact kr _ _ _ _ _ _ hW h dX11_save_67
      · have h := h.2 c2
        refine lv_aload_n hx hb dX11_save_22 rfl (lv_at hl 0 rfl) ?_
        refine xgX11_0r hx hb hts hown hK hW 0 hcX11_save_X11 (hI 0 (by decide)) lX_0 (hts _ hwX11_save_0) (sX_0_0 _) dX11_save_23 ?_
        refine xgX6_7r hx hb hts hown hK hW 1 hcX11_save_X6 (hI 1 (by decide)) lX_1 (hts _ hwX11_save_2) (sX_1_7 _) dX11_save_26 ?_
        refine lv_iload_n hx hb dX11_save_29 rfl (lv_at hl 2 rfl) ?_
        obtain ⟨hi3, h⟩ := h
        refine x_lald hx hb hK hW 6 (hI 6 (by decide)) lX_6 hi3 dX11_save_30 ?_
        refine lv_lconst (v := 0) hx hb dX11_save_31 (by decide) ?_
        refine W.lcmp hx hb dX11_save_32 ?_
        refine lv_if_le (tgt := 60) hx hb dX11_save_33 (by decide) (fun c4 => ?_) (fun c4 => ?_)
        · have h := h.1 c4
          exact blk60  k11 hk11 x1 x2 _ _ _ _ hW (lv_sub hl [0, 1, 2] rfl) h
        · have h := h.2 c4
          refine lv_aload_n hx hb dX11_save_36 rfl (lv_at hl 0 rfl) ?_
          refine xgX11_0r hx hb hts hown hK hW 0 hcX11_save_X11 (hI 0 (by decide)) lX_0 (hts _ hwX11_save_0) (sX_0_0 _) dX11_save_37 ?_
          refine lv_aload_n hx hb dX11_save_40 rfl (lv_at hl 0 rfl) ?_
          refine xgX11_0r hx hb hts hown hK hW 0 hcX11_save_X11 (hI 0 (by decide)) lX_0 (hts _ hwX11_save_0) (sX_0_0 _) dX11_save_41 ?_
          refine lv_iload_n hx hb dX11_save_44 rfl (lv_at hl 2 rfl) ?_
          refine x_calli (va_runV (As := [.int x2]) (rest := [.ref (ad 1)]) ⟨hx, hb, hml, hown, hts⟩ (J_X6_shaftsFrom l hI h) (cwV 1 hts gX11_save_X6_shaftsFrom rfl rfl rfl hdV_X6_shaftsFrom ⟨Nat.le_of_ble_eq_true rfl, Nat.le_of_ble_eq_true rfl⟩) (x_preV (ci := 6) hK hZ hA hW (hI 1 (by decide)) lX_1 rfl) rfl rfl hl.1 rfl (lv_room (Nat.le_of_ble_eq_true rfl)) dX11_save_45 ⟨Nat.zero_le _, Nat.zero_le _⟩) hW hA (fun r6 σ5 H locs h hW => ?_)
          try dsimp only at h
          refine x_calli (va_runV (As := [.int r6]) (rest := []) ⟨hx, hb, hml, hown, hts⟩ (J_X6_machinesOn l hI h) (cwV 1 hts gX11_save_X6_machinesOn rfl rfl rfl hdV_X6_machinesOn ⟨Nat.le_of_ble_eq_true rfl, Nat.le_of_ble_eq_true rfl⟩) (x_preV (ci := 6) hK hZ hA hW (hI 1 (by decide)) lX_1 rfl) rfl rfl hl.1 rfl (lv_room (Nat.le_of_ble_eq_true rfl)) dX11_save_48 ⟨Nat.zero_le _, Nat.zero_le _⟩) hW hA (fun r8 σ7 H locs h hW => ?_)
          try dsimp only at h
          refine lv_if_ne (tgt := 60) hx hb dX11_save_51 (by decide) (fun c9 => ?_) (fun c9 => ?_)
          · have h := h.1 c9
            exact blk60  k11 hk11 x1 x2 _ _ _ _ hW (lv_sub hl [0, 1, 2] rfl) h
          · have h := h.2 c9
            refine lv_iload_n hx hb dX11_save_54 rfl (lv_at hl 1 rfl) ?_
            refine lv_iconst (v := 1) hx hb dX11_save_55 (by decide) ?_
            refine lv_iload_n hx hb dX11_save_56 rfl (lv_at hl 2 rfl) ?_
            refine lv_ishl hx hb dX11_save_57 ?_
            refine lv_ior hx hb dX11_save_58 ?_
            refine lv_topi (fun v10 hv10 => ?_)
            have h := h v10 hv10
            refine lv_istore_n (lv' := [(1, .int v10), (0, .ref (ad 0)), (2, .int x2)]) hx hb dX11_save_59 rfl hl (by decide) rfl (fun ls hl => ?_)
            exact blk60  k11 hk11 v10 x2 _ _ _ _ hW (lv_sub hl [1, 0, 2] rfl) h
  have main : ∀ (H : Heap) (locs : List Loc) (ls : Array Slot), xW D KA layX stX ad ids (xA ad ids s.heap.size) s.heap σ H locs → lv_has ls 3 [(0, .ref (ad 0))] → W p l e rmX11_save s m args below meth c H locs 0 0 Q (F0 m 0 ls []) := by
    intro H locs ls hW hl
    unfold wX11_save at h
    refine lv_aload_n hx hb dX11_save_0 rfl (lv_at hl 0 rfl) ?_
    refine xgX11_0r hx hb hts hown hK hW 0 hcX11_save_X11 (hI 0 (by decide)) lX_0 (hts _ hwX11_save_0) (sX_0_0 _) dX11_save_1 ?_
    refine x_callv (va_runV (As := []) (rest := []) ⟨hx, hb, hml, hown, hts⟩ (J_X6_spin l hI h) (cwV 0 hts gX11_save_X6_spin rfl rfl rfl hdV_X6_spin ⟨Nat.le_of_ble_eq_true rfl, Nat.le_of_ble_eq_true rfl⟩) (x_preV (ci := 6) hK hZ hA hW (hI 1 (by decide)) lX_1 rfl) rfl rfl hl.1 rfl (lv_room (Nat.le_of_ble_eq_true rfl)) dX11_save_4 ⟨Nat.zero_le _, Nat.zero_le _⟩) hW hA (fun σ1001 H locs h hW => ?_)
    try dsimp only at h
    refine lv_iconst (v := 0) hx hb dX11_save_7 (by decide) ?_
    refine lv_istore_n (lv' := [(1, .int (0 : Int32)), (0, .ref (ad 0))]) hx hb dX11_save_8 rfl hl (by decide) rfl (fun ls hl => ?_)
    refine lv_iconst (v := 1) hx hb dX11_save_9 (by decide) ?_
    refine lv_istore_n (lv' := [(2, .int (1 : Int32)), (1, .int (0 : Int32)), (0, .ref (ad 0))]) hx hb dX11_save_10 rfl hl (by decide) rfl (fun ls hl => ?_)
    obtain ⟨n, h⟩ := h
    exact blk11    n (0 : Int32) (1 : Int32) _ _ _ _ hW (lv_sub hl [2, 1, 0] rfl) h
  exact main _ _ _ hW hl
