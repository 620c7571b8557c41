theorem hwX12_count_0 : (.fieldLink RX12 153 "FortyBeltsModel" "shafts" "I" : Cond) ∈ wsX12_count := (List.mem_cons_of_mem _ (List.mem_append_left _ (List.mem_of_getElem? (i := 0) rfl)))
theorem hwX12_count_1 : (.fieldLink RX12 160 "FortyBeltsModel" "machines" "I" : Cond) ∈ wsX12_count := (List.mem_cons_of_mem _ (List.mem_append_left _ (List.mem_of_getElem? (i := 1) rfl)))
theorem hwX12_count_2 : (.fieldLink RX12 163 "FortyBeltsModel" "drumMany" "I" : Cond) ∈ wsX12_count := (List.mem_cons_of_mem _ (List.mem_append_left _ (List.mem_of_getElem? (i := 2) rfl)))
theorem hwX12_count_3 : (.fieldLink RX12 166 "FortyBeltsModel" "belts" "I" : Cond) ∈ wsX12_count := (List.mem_cons_of_mem _ (List.mem_append_left _ (List.mem_of_getElem? (i := 3) rfl)))
theorem hwX12_count_4 : (.fieldLink RX12 142 "FortyBeltsModel" "textCount" "I" : Cond) ∈ wsX12_count := (List.mem_cons_of_mem _ (List.mem_append_left _ (List.mem_of_getElem? (i := 4) rfl)))
theorem hwX12_count_5 : (.fieldLink RX12 275 "FortyBeltsModel" "taped" "I" : Cond) ∈ wsX12_count := (List.mem_cons_of_mem _ (List.mem_append_left _ (List.mem_of_getElem? (i := 5) rfl)))
theorem hwX12_count_6 : (.fieldLink RX12 236 "FortyBeltsModel" "rule" "I" : Cond) ∈ wsX12_count := (List.mem_cons_of_mem _ (List.mem_append_left _ (List.mem_of_getElem? (i := 6) rfl)))
theorem hcX12_count_X12 : ∀ w ∈ wsX120, w ∈ wsX12_count := fun _ h => (List.mem_cons_of_mem _ (List.mem_append_right _ h))
set_option maxHeartbeats 4000000 in
set_option maxRecDepth 100000 in
theorem J_X12_count {D : va_G} {KA : Nat → ClassId} {zs : ZS} {ad : Nat → Nat} {ids : List Nat} {sz : Nat} (l : Launch) (hI : ∀ c, c < 35 → c ∈ ids) {a1 : Int32}  {σ : St} {post : Int32 → St → Prop} (h : wX12_count  a1 σ post) : Met l yX12_count wsX12_count rmX12_count (va_Pc [.ref (ad 0), .int a1] (xIn D KA zs layR stR ad ids sz σ)) (va_Qi post (xOut D KA layR stR ad ids) (xA ad ids sz)) 0 0 (xA ad ids sz) := by
  refine Met.ofW (cc := cX12_count) (maxL := 2) (ret := (some .int)) (by decide) rfl ?_
  intro p e s m args below meth c s₁ B hml hv
  obtain ⟨hav, hsz, hK, hZ, hP, hD⟩ := hv
  have hx := B.exec
  have hb := B.bytes
  have hr := B.returns
  have hts := atoms_spec (ws := wsX12_count) B.pre
  have hown : s.vm.findClass RX12 = some m.cls := findClass_of_methodNamed B.named
  have hlocks := B.notSynchronized
  subst hsz
  have hA : ∀ q : Nat, s.heap.size ≤ q → xA ad ids s.heap.size q := fun q h => Or.inr h
  have hW : xW D KA layR stR ad ids (xA ad ids s.heap.size) s.heap σ s.heap [] := ⟨hP, xA_D (D := D) hD, va_S.rf⟩
  have kr : ∀ (v : Int32) (σ : St) (H : Heap) (locs : List Loc) (ls : Array Slot) (pc : Nat), xW D KA layR stR ad ids (xA ad ids s.heap.size) s.heap σ H locs → post v σ → decode cX12_count pc = .ok (.ireturn, 1) → W p l e rmX12_count s m args below meth c H locs 0 0 (MQ below (va_Qi post (xOut D KA layR stR ad ids) (xA ad ids s.heap.size)) args s 0 0 (xA ad ids s.heap.size)) (F0 m pc ls [.int v]) := fun v σ H locs ls pc hW h hd => x_iret hx hb hr hlocks hW h hd
  have hl := lv_entry ([.ref (ad 0), .int a1]) (n := 2) (Nat.le_of_ble_eq_true rfl)
  rw [show entryFrame m args 2 = entryFrame m ([.ref (ad 0), .int a1] : List Value).toArray 2 from by rw [hav]]
  rw [lg_entry_eq]
  generalize (lg_sl ([.ref (ad 0), .int a1]) ++ List.replicate (2 - (lg_sl ([.ref (ad 0), .int a1])).length) Slot.unset).toArray = ls at hl ⊢
  have hl : lv_has ls 2 [(0, .ref (ad 0)), (1, .int a1)] := hl
  show W p l e rmX12_count s m args below meth c s.heap [] 0 0 _ _
  generalize MQ below (va_Qi post (xOut D KA layR stR ad ids) (xA ad ids s.heap.size)) args s 0 0 (xA ad ids s.heap.size) = Q at kr ⊢
  have main : ∀ (H : Heap) (locs : List Loc) (ls : Array Slot), xW D KA layR stR ad ids (xA ad ids s.heap.size) s.heap σ H locs → lv_has ls 2 [(0, .ref (ad 0)), (1, .int a1)] → W p l e rmX12_count s m args below meth c H locs 0 0 Q (F0 m 0 ls []) := by
    intro H locs ls hW hl
    unfold wX12_count at h
    refine lv_iload_n hx hb dX12_count_0 rfl (lv_at hl 1 rfl) ?_
    refine lv_topi (fun v1001 hv1001 => ?_)
    have h := h v1001 hv1001
    obtain ⟨hcase, h⟩ := h
    by_cases hc1_0 : v1001 = (0 : Int32)
    · have h := hcase hc1_0
      clear hcase
      refine lv_tableIn (tgt := 44) hx hb dX12_count_1 (by rw [hc1_0] <;> decide) (by rw [hc1_0] <;> decide) (by rw [hc1_0]; rfl) (by decide) ?_
      refine lv_aload_n hx hb dX12_count_44 rfl (lv_at hl 0 rfl) ?_
      refine xgX12_9 hx hb hts hown hK hW 0 hcX12_count_X12 (hI 0 (by decide)) lR_0 (hts _ hwX12_count_0) dX12_count_45 ?_
      exact kr _ _ _ _ _ _ hW h dX12_count_48
    clear hcase
    obtain ⟨hcase, h⟩ := h
    by_cases hc1_1 : v1001 = (1 : Int32)
    · have h := hcase hc1_1
      clear hcase
      refine lv_tableIn (tgt := 49) hx hb dX12_count_1 (by rw [hc1_1] <;> decide) (by rw [hc1_1] <;> decide) (by rw [hc1_1]; rfl) (by decide) ?_
      refine lv_aload_n hx hb dX12_count_49 rfl (lv_at hl 0 rfl) ?_
      refine xgX12_18 hx hb hts hown hK hW 0 hcX12_count_X12 (hI 0 (by decide)) lR_0 (hts _ hwX12_count_1) dX12_count_50 ?_
      exact kr _ _ _ _ _ _ hW h dX12_count_53
    clear hcase
    obtain ⟨hcase, h⟩ := h
    by_cases hc1_2 : v1001 = (2 : Int32)
    · have h := hcase hc1_2
      clear hcase
      refine lv_tableIn (tgt := 54) hx hb dX12_count_1 (by rw [hc1_2] <;> decide) (by rw [hc1_2] <;> decide) (by rw [hc1_2]; rfl) (by decide) ?_
      refine lv_aload_n hx hb dX12_count_54 rfl (lv_at hl 0 rfl) ?_
      refine xgX12_20 hx hb hts hown hK hW 0 hcX12_count_X12 (hI 0 (by decide)) lR_0 (hts _ hwX12_count_2) dX12_count_55 ?_
      exact kr _ _ _ _ _ _ hW h dX12_count_58
    clear hcase
    obtain ⟨hcase, h⟩ := h
    by_cases hc1_3 : v1001 = (3 : Int32)
    · have h := hcase hc1_3
      clear hcase
      refine lv_tableIn (tgt := 59) hx hb dX12_count_1 (by rw [hc1_3] <;> decide) (by rw [hc1_3] <;> decide) (by rw [hc1_3]; rfl) (by decide) ?_
      refine lv_aload_n hx hb dX12_count_59 rfl (lv_at hl 0 rfl) ?_
      refine xgX12_28 hx hb hts hown hK hW 0 hcX12_count_X12 (hI 0 (by decide)) lR_0 (hts _ hwX12_count_3) dX12_count_60 ?_
      exact kr _ _ _ _ _ _ hW h dX12_count_63
    clear hcase
    obtain ⟨hcase, h⟩ := h
    by_cases hc1_4 : v1001 = (4 : Int32)
    · have h := hcase hc1_4
      clear hcase
      refine lv_tableIn (tgt := 64) hx hb dX12_count_1 (by rw [hc1_4] <;> decide) (by rw [hc1_4] <;> decide) (by rw [hc1_4]; rfl) (by decide) ?_
      refine lv_aload_n hx hb dX12_count_64 rfl (lv_at hl 0 rfl) ?_
      refine xgX12_3 hx hb hts hown hK hW 0 hcX12_count_X12 (hI 0 (by decide)) lR_0 (hts _ hwX12_count_4) dX12_count_65 ?_
      exact kr _ _ _ _ _ _ hW h dX12_count_68
    clear hcase
    obtain ⟨hcase, h⟩ := h
    by_cases hc1_5 : v1001 = (5 : Int32)
    · have h := hcase hc1_5
      clear hcase
      refine lv_tableIn (tgt := 69) hx hb dX12_count_1 (by rw [hc1_5] <;> decide) (by rw [hc1_5] <;> decide) (by rw [hc1_5]; rfl) (by decide) ?_
      refine lv_aload_n hx hb dX12_count_69 rfl (lv_at hl 0 rfl) ?_
      refine xgX12_6 hx hb hts hown hK hW 0 hcX12_count_X12 (hI 0 (by decide)) lR_0 (hts _ hwX12_count_5) dX12_count_70 ?_
      exact kr _ _ _ _ _ _ hW h dX12_count_73
    clear hcase
    obtain ⟨hcase, h⟩ := h
    by_cases hc1_6 : v1001 = (6 : Int32)
    · have h := hcase hc1_6
      clear hcase
      refine lv_tableIn (tgt := 74) hx hb dX12_count_1 (by rw [hc1_6] <;> decide) (by rw [hc1_6] <;> decide) (by rw [hc1_6]; rfl) (by decide) ?_
      refine lv_aload_n hx hb dX12_count_74 rfl (lv_at hl 0 rfl) ?_
      refine xgX12_4 hx hb hts hown hK hW 0 hcX12_count_X12 (hI 0 (by decide)) lR_0 (hts _ hwX12_count_6) dX12_count_75 ?_
      exact kr _ _ _ _ _ _ hW h dX12_count_78
    clear hcase
    have h := h ⟨hc1_0, hc1_1, hc1_2, hc1_3, hc1_4, hc1_5, hc1_6⟩
    refine lv_tableOut (tgt := 79) hx hb dX12_count_1 (tsw_out v1001 (0) (6) (fun k h1 h2 => ?_)) (by decide) ?_
    · rcases (show k = 0 ∨ k = 1 ∨ k = 2 ∨ k = 3 ∨ k = 4 ∨ k = 5 ∨ k = 6 by omega) with rfl | rfl | rfl | rfl | rfl | rfl | rfl
      · exact hc1_0
      · exact hc1_1
      · exact hc1_2
      · exact hc1_3
      · exact hc1_4
      · exact hc1_5
      · exact hc1_6
    refine lv_bipush (v := (-2)) hx hb dX12_count_79 (by decide) ?_
    exact kr _ _ _ _ _ _ hW h dX12_count_81
  exact main _ _ _ hW hl
set_option maxHeartbeats 4000000 in
set_option maxRecDepth 100000 in
theorem J_X12_within {D : va_G} {KA : Nat → ClassId} {zs : ZS} {ad : Nat → Nat} {ids : List Nat} {sz : Nat} (l : Launch) (hI : ∀ c, c < 35 → c ∈ ids) {a0 : Int32} {a1 : Int32} {a2 : Int32}  {σ : St} {post : Int32 → St → Prop} (h : wX12_within  a0 a1 a2 σ post) : Met l yX12_within wsX12_within rmX12_within (va_Pc [.int a0, .int a1, .int a2] (xIn D KA zs layR stR ad ids sz σ)) (va_Qi post (xOut D KA layR stR ad ids) (xA ad ids sz)) 0 0 (xA ad ids sz) := by
  refine Met.ofW (cc := cX12_within) (maxL := 3) (ret := (some .int)) (by decide) rfl ?_
  intro p e s m args below meth c s₁ B hml hv
  obtain ⟨hav, hsz, hK, hZ, hP, hD⟩ := hv
  have hx := B.exec
  have hb := B.bytes
  have hr := B.returns
  have hts := atoms_spec (ws := wsX12_within) B.pre
  have hown : s.vm.findClass RX12 = some m.cls := findClass_of_methodNamed B.named
  have hlocks := B.notSynchronized
  subst hsz
  have hA : ∀ q : Nat, s.heap.size ≤ q → xA ad ids s.heap.size q := fun q h => Or.inr h
  have hW : xW D KA layR stR ad ids (xA ad ids s.heap.size) s.heap σ s.heap [] := ⟨hP, xA_D (D := D) hD, va_S.rf⟩
  have kr : ∀ (v : Int32) (σ : St) (H : Heap) (locs : List Loc) (ls : Array Slot) (pc : Nat), xW D KA layR stR ad ids (xA ad ids s.heap.size) s.heap σ H locs → post v σ → decode cX12_within pc = .ok (.ireturn, 1) → W p l e rmX12_within s m args below meth c H locs 0 0 (MQ below (va_Qi post (xOut D KA layR stR ad ids) (xA ad ids s.heap.size)) args s 0 0 (xA ad ids s.heap.size)) (F0 m pc ls [.int v]) := fun v σ H locs ls pc hW h hd => x_iret hx hb hr hlocks hW h hd
  have hl := lv_entry ([.int a0, .int a1, .int a2]) (n := 3) (Nat.le_of_ble_eq_true rfl)
  rw [show entryFrame m args 3 = entryFrame m ([.int a0, .int a1, .int a2] : List Value).toArray 3 from by rw [hav]]
  rw [lg_entry_eq]
  generalize (lg_sl ([.int a0, .int a1, .int a2]) ++ List.replicate (3 - (lg_sl ([.int a0, .int a1, .int a2])).length) Slot.unset).toArray = ls at hl ⊢
  have hl : lv_has ls 3 [(0, .int a0), (1, .int a1), (2, .int a2)] := hl
  show W p l e rmX12_within s m args below meth c s.heap [] 0 0 _ _
  generalize MQ below (va_Qi post (xOut D KA layR stR ad ids) (xA ad ids s.heap.size)) args s 0 0 (xA ad ids s.heap.size) = Q at kr ⊢
  have blk19 : ∀ (s0 : Int32) (σ : St) (H : Heap) (locs : List Loc) (ls : Array Slot), xW D KA layR stR ad ids (xA ad ids s.heap.size) s.heap σ H locs → lv_has ls 3 [] → wX12_within_19 post s0 σ → W p l e rmX12_within s m args below meth c H locs 0 0 Q (F0 m 19 ls [.int s0]) := by
    intro   s0 σ H locs ls hW hl h
    unfold wX12_within_19 at h
    exact kr _ _ _ _ _ _ hW h dX12_within_19
  have main : ∀ (H : Heap) (locs : List Loc) (ls : Array Slot), xW D KA layR stR ad ids (xA ad ids s.heap.size) s.heap σ H locs → lv_has ls 3 [(0, .int a0), (1, .int a1), (2, .int a2)] → W p l e rmX12_within s m args below meth c H locs 0 0 Q (F0 m 0 ls []) := by
    intro H locs ls hW hl
    unfold wX12_within at h
    refine lv_iload_n hx hb dX12_within_0 rfl (lv_at hl 0 rfl) ?_
    refine lv_iload_n hx hb dX12_within_1 rfl (lv_at hl 1 rfl) ?_
    refine lv_icmp_ge (tgt := 9) hx hb dX12_within_2 (by decide) (fun c1001 => ?_) (fun c1001 => ?_)
    · have h := h.1 c1001
      refine lv_iload_n hx hb dX12_within_9 rfl (lv_at hl 0 rfl) ?_
      refine lv_iload_n hx hb dX12_within_10 rfl (lv_at hl 2 rfl) ?_
      refine lv_icmp_le (tgt := 18) hx hb dX12_within_11 (by decide) (fun c1002 => ?_) (fun c1002 => ?_)
      · have h := h.1 c1002
        refine lv_iload_n hx hb dX12_within_18 rfl (lv_at hl 0 rfl) ?_
        exact blk19   a0 _ _ _ _ hW (lv_sub hl [] rfl) h
      · have h := h.2 c1002
        refine lv_iload_n hx hb dX12_within_14 rfl (lv_at hl 2 rfl) ?_
        refine lv_goto (tgt := 19) hx hb dX12_within_15 (by decide) ?_
        exact blk19   a2 _ _ _ _ hW (lv_sub hl [] rfl) h
    · have h := h.2 c1001
      refine lv_iload_n hx hb dX12_within_5 rfl (lv_at hl 1 rfl) ?_
      refine lv_goto (tgt := 19) hx hb dX12_within_6 (by decide) ?_
      exact blk19   a1 _ _ _ _ hW (lv_sub hl [] rfl) h
  exact main _ _ _ hW hl
theorem hwX12_wantOf_0 : (.fieldLink RX12 236 "FortyBeltsModel" "rule" "I" : Cond) ∈ wsX12_wantOf := (List.mem_cons_of_mem _ (List.mem_append_left _ (List.mem_append_left _ (List.mem_of_getElem? (i := 0) rfl))))
theorem hcX12_wantOf_X12 : ∀ w ∈ wsX120, w ∈ wsX12_wantOf := fun _ h => (List.mem_cons_of_mem _ (List.mem_append_right _ h))
set_option maxHeartbeats 4000000 in
set_option maxRecDepth 100000 in
theorem J_X12_wantOf {D : va_G} {KA : Nat → ClassId} {zs : ZS} {ad : Nat → Nat} {ids : List Nat} {sz : Nat} (l : Launch) (hI : ∀ c, c < 35 → c ∈ ids) {a1 : Int32}  {σ : St} {post : Int32 → St → Prop} (h : wX12_wantOf  a1 σ post) : Met l yX12_wantOf wsX12_wantOf rmX12_wantOf (va_Pc [.ref (ad 0), .int a1] (xIn D KA zs layR stR ad ids sz σ)) (va_Qi post (xOut D KA layR stR ad ids) (xA ad ids sz)) 0 0 (xA ad ids sz) := by
  refine Met.ofW (cc := cX12_wantOf) (maxL := 2) (ret := (some .int)) (by decide) rfl ?_
  intro p e s m args below meth c s₁ B hml hv
  obtain ⟨hav, hsz, hK, hZ, hP, hD⟩ := hv
  have hx := B.exec
  have hb := B.bytes
  have hr := B.returns
  have hts := atoms_spec (ws := wsX12_wantOf) B.pre
  have hown : s.vm.findClass RX12 = some m.cls := findClass_of_methodNamed B.named
  have hlocks := B.notSynchronized
  subst hsz
  have hA : ∀ q : Nat, s.heap.size ≤ q → xA ad ids s.heap.size q := fun q h => Or.inr h
  have hW : xW D KA layR stR ad ids (xA ad ids s.heap.size) s.heap σ s.heap [] := ⟨hP, xA_D (D := D) hD, va_S.rf⟩
  have kr : ∀ (v : Int32) (σ : St) (H : Heap) (locs : List Loc) (ls : Array Slot) (pc : Nat), xW D KA layR stR ad ids (xA ad ids s.heap.size) s.heap σ H locs → post v σ → decode cX12_wantOf pc = .ok (.ireturn, 1) → W p l e rmX12_wantOf s m args below meth c H locs 0 0 (MQ below (va_Qi post (xOut D KA layR stR ad ids) (xA ad ids s.heap.size)) args s 0 0 (xA ad ids s.heap.size)) (F0 m pc ls [.int v]) := fun v σ H locs ls pc hW h hd => x_iret hx hb hr hlocks hW h hd
  have hl := lv_entry ([.ref (ad 0), .int a1]) (n := 2) (Nat.le_of_ble_eq_true rfl)
  rw [show entryFrame m args 2 = entryFrame m ([.ref (ad 0), .int a1] : List Value).toArray 2 from by rw [hav]]
  rw [lg_entry_eq]
  generalize (lg_sl ([.ref (ad 0), .int a1]) ++ List.replicate (2 - (lg_sl ([.ref (ad 0), .int a1])).length) Slot.unset).toArray = ls at hl ⊢
  have hl : lv_has ls 2 [(0, .ref (ad 0)), (1, .int a1)] := hl
  show W p l e rmX12_wantOf s m args below meth c s.heap [] 0 0 _ _
  generalize MQ below (va_Qi post (xOut D KA layR stR ad ids) (xA ad ids s.heap.size)) args s 0 0 (xA ad ids s.heap.size) = Q at kr ⊢
  have main : ∀ (H : Heap) (locs : List Loc) (ls : Array Slot), xW D KA layR stR ad ids (xA ad ids s.heap.size) s.heap σ H locs → lv_has ls 2 [(0, .ref (ad 0)), (1, .int a1)] → W p l e rmX12_wantOf s m args below meth c H locs 0 0 Q (F0 m 0 ls []) := by
    intro H locs ls hW hl
    unfold wX12_wantOf at h
    refine lv_aload_n hx hb dX12_wantOf_0 rfl (lv_at hl 0 rfl) ?_
    refine lv_aload_n hx hb dX12_wantOf_1 rfl (lv_at hl 0 rfl) ?_
    refine xgX12_4 hx hb hts hown hK hW 0 hcX12_wantOf_X12 (hI 0 (by decide)) lR_0 (hts _ hwX12_wantOf_0) dX12_wantOf_2 ?_
    refine lv_iconst (v := 0) hx hb dX12_wantOf_5 (by decide) ?_
    refine lv_iconst (v := 0) hx hb dX12_wantOf_6 (by decide) ?_
    refine lv_iconst (v := 0) hx hb dX12_wantOf_7 (by decide) ?_
    refine lv_iconst (v := 0) hx hb dX12_wantOf_8 (by decide) ?_
    refine lv_iload_n hx hb dX12_wantOf_9 rfl (lv_at hl 1 rfl) ?_
    refine lv_iconst (v := 0) hx hb dX12_wantOf_10 (by decide) ?_
    refine lv_iconst (v := 2) hx hb dX12_wantOf_11 (by decide) ?_
    refine x_calli (va_runV (As := [.int (gI σ 0 4), .int (0 : Int32), .int (0 : Int32), .int (0 : Int32), .int (0 : Int32), .int a1, .int (0 : Int32), .int (2 : Int32)]) (rest := []) ⟨hx, hb, hml, hown, hts⟩ (J_X12_read l hI h) (cwV 8 hts gX12_wantOf_X12_read rfl rfl rfl hdV_X12_read ⟨Nat.le_of_ble_eq_true rfl, Nat.le_of_ble_eq_true rfl⟩) (x_preV (ci := 12) hK hZ hA hW (hI 0 (by decide)) lR_0 rfl) rfl rfl hl.1 rfl (lv_room (Nat.le_of_ble_eq_true rfl)) dX12_wantOf_12 ⟨Nat.zero_le _, Nat.zero_le _⟩) hW hA (fun r1002 σ1001 H locs h hW => ?_)
    try dsimp only at h
    refine lv_iconst (v := 1) hx hb dX12_wantOf_15 (by decide) ?_
    refine lv_sipush (v := 999) hx hb dX12_wantOf_16 (by decide) ?_
    refine x_calli (va_runS (As := [.int r1002, .int (1 : Int32), .int (999 : Int32)]) (rest := []) ⟨hx, hb, hml, hown, hts⟩ (J_X12_within l hI h) (va_cwS 3 hts gX12_wantOf_X12_within rfl rfl rfl hdS_X12_within ⟨Nat.le_of_ble_eq_true rfl, Nat.le_of_ble_eq_true rfl⟩) (x_preS hK hZ hA hW) rfl rfl hl.1 rfl (lv_room (Nat.le_of_ble_eq_true rfl)) dX12_wantOf_19 ⟨Nat.zero_le _, Nat.zero_le _⟩) hW hA (fun r1004 σ1003 H locs h hW => ?_)
    try dsimp only at h
    exact kr _ _ _ _ _ _ hW h dX12_wantOf_22
  exact main _ _ _ hW hl
theorem hwX12_cut_0 : (.fieldLink RX12 71 "FortyBeltsModel" "cutBelt" "I" : Cond) ∈ wsX12_cut := (List.mem_cons_of_mem _ (List.mem_append_left _ (List.mem_append_left _ (List.mem_of_getElem? (i := 1) rfl))))
theorem hwX12_cut_1 : (.fieldLink RX12 200 "FortyBeltsModel" "cutSize" "I" : Cond) ∈ wsX12_cut := (List.mem_cons_of_mem _ (List.mem_append_left _ (List.mem_append_left _ (List.mem_of_getElem? (i := 2) rfl))))
theorem hwX12_cut_2 : (.constantLong RX12 186 (2) : Cond) ∈ wsX12_cut := (List.mem_cons_of_mem _ (List.mem_append_left _ (List.mem_append_left _ (List.mem_of_getElem? (i := 0) rfl))))
theorem hcX12_cut_X12 : ∀ w ∈ wsX120, w ∈ wsX12_cut := fun _ h => (List.mem_cons_of_mem _ (List.mem_append_right _ h))
set_option maxHeartbeats 4000000 in
set_option maxRecDepth 100000 in
theorem J_X12_cut {D : va_G} {KA : Nat → ClassId} {zs : ZS} {ad : Nat → Nat} {ids : List Nat} {sz : Nat} (l : Launch) (hI : ∀ c, c < 35 → c ∈ ids) {a1 : Int32} {a2 : Int32}  {σ : St} {post : Int32 → St → Prop} (h : wX12_cut  a1 a2 σ post) : Met l yX12_cut wsX12_cut rmX12_cut (va_Pc [.ref (ad 0), .int a1, .int a2] (xIn D KA zs layR stR ad ids sz σ)) (va_Qi post (xOut D KA layR stR ad ids) (xA ad ids sz)) 0 0 (xA ad ids sz) := by
  refine Met.ofW (cc := cX12_cut) (maxL := 9) (ret := (some .int)) (by decide) rfl ?_
  intro p e s m args below meth c s₁ B hml hv
  obtain ⟨hav, hsz, hK, hZ, hP, hD⟩ := hv
  have hx := B.exec
  have hb := B.bytes
  have hr := B.returns
  have hts := atoms_spec (ws := wsX12_cut) B.pre
  have hown : s.vm.findClass RX12 = some m.cls := findClass_of_methodNamed B.named
  have hlocks := B.notSynchronized
  subst hsz
  have hA : ∀ q : Nat, s.heap.size ≤ q → xA ad ids s.heap.size q := fun q h => Or.inr h
  have hW : xW D KA layR stR ad ids (xA ad ids s.heap.size) s.heap σ s.heap [] := ⟨hP, xA_D (D := D) hD, va_S.rf⟩
  have kr : ∀ (v : Int32) (σ : St) (H : Heap) (locs : List Loc) (ls : Array Slot) (pc : Nat), xW D KA layR stR ad ids (xA ad ids s.heap.size) s.heap σ H locs → post v σ → decode cX12_cut pc = .ok (.ireturn, 1) → W p l e rmX12_cut s m args below meth c H locs 0 0 (MQ below (va_Qi post (xOut D KA layR stR ad ids) (xA ad ids s.heap.size)) args s 0 0 (xA ad ids s.heap.size)) (F0 m pc ls [.int v]) := fun v σ H locs ls pc hW h hd => x_iret hx hb hr hlocks hW h hd
  have hl := lv_entry ([.ref (ad 0), .int a1, .int a2]) (n := 9) (Nat.le_of_ble_eq_true rfl)
  rw [show entryFrame m args 9 = entryFrame m ([.ref (ad 0), .int a1, .int a2] : List Value).toArray 9 from by rw [hav]]
  rw [lg_entry_eq]
  generalize (lg_sl ([.ref (ad 0), .int a1, .int a2]) ++ List.replicate (9 - (lg_sl ([.ref (ad 0), .int a1, .int a2])).length) Slot.unset).toArray = ls at hl ⊢
  have hl : lv_has ls 9 [(0, .ref (ad 0)), (1, .int a1), (2, .int a2)] := hl
  show W p l e rmX12_cut s m args below meth c s.heap [] 0 0 _ _
  generalize MQ below (va_Qi post (xOut D KA layR stR ad ids) (xA ad ids s.heap.size)) args s 0 0 (xA ad ids s.heap.size) = Q at kr ⊢
  have blk137 : ∀ (s0 : Int32) (σ : St) (H : Heap) (locs : List Loc) (ls : Array Slot), xW D KA layR stR ad ids (xA ad ids s.heap.size) s.heap σ H locs → lv_has ls 9 [] → wX12_cut_137 post s0 σ → W p l e rmX12_cut s m args below meth c H locs 0 0 Q (F0 m 137 ls [.int s0]) := by
    intro   s0 σ H locs ls hW hl h
    unfold wX12_cut_137 at h
    exact kr _ _ _ _ _ _ hW h dX12_cut_137
  have blk106 : ∀ (x2 : Int32) (k39 : Int32 → Int32 → Int32 → Int32 → St → Prop) (hk39 : ∀ (x3 : Int32) (x4 : Int32) (x5 : Int32) (x6 : Int32) (σ : St) (H : Heap) (locs : List Loc) (ls : Array Slot), xW D KA layR stR ad ids (xA ad ids s.heap.size) s.heap σ H locs → lv_has ls 9 [(0, .ref (ad 0)), (2, .int x2), (3, .int x3), (4, .int x4), (5, .int x5), (6, .int x6)] → k39 x3 x4 x5 x6 σ → W p l e rmX12_cut s m args below meth c H locs 0 0 Q (F0 m 39 ls [])) (x3 : Int32) (x4 : Int32) (x5 : Int32) (x6 : Int32) (σ : St) (H : Heap) (locs : List Loc) (ls : Array Slot), xW D KA layR stR ad ids (xA ad ids s.heap.size) s.heap σ H locs → lv_has ls 9 [(0, .ref (ad 0)), (2, .int x2), (3, .int x3), (4, .int x4), (5, .int x5), (6, .int x6)] → wX12_cut_106 k39 post x2 x3 x4 x5 x6 σ → W p l e rmX12_cut s m args below meth c H locs 0 0 Q (F0 m 106 ls []) := by
    intro x2 k39 hk39 x3 x4 x5 x6 σ H locs ls hW hl h
    unfold wX12_cut_106 at h
    obtain ⟨v1, hv1⟩ : ∃ y : Int32, y = x6 + (1 : Int32) := ⟨_, rfl⟩
    have h := h v1 hv1
    refine lv_iinc (v := v1) (lv' := [(6, .int v1), (0, .ref (ad 0)), (2, .int x2), (3, .int x3), (4, .int x4), (5, .int x5)]) hx hb dX12_cut_106 hl (k := 5) rfl (by rw [hv1]; rfl) (by decide) rfl (fun ls hl => ?_)
    refine lv_goto (tgt := 39) hx hb dX12_cut_109 (by decide) ?_
    exact hk39 x3 x4 x5 v1 _ _ _ _ hW (lv_sub hl [1, 2, 3, 4, 5, 0] rfl) h
  have blk95 : ∀ (x2 : Int32) (k39 : Int32 → Int32 → Int32 → Int32 → St → Prop) (hk39 : ∀ (x3 : Int32) (x4 : Int32) (x5 : Int32) (x6 : Int32) (σ : St) (H : Heap) (locs : List Loc) (ls : Array Slot), xW D KA layR stR ad ids (xA ad ids s.heap.size) s.heap σ H locs → lv_has ls 9 [(0, .ref (ad 0)), (2, .int x2), (3, .int x3), (4, .int x4), (5, .int x5), (6, .int x6)] → k39 x3 x4 x5 x6 σ → W p l e rmX12_cut s m args below meth c H locs 0 0 Q (F0 m 39 ls [])) (x6 : Int32) (x7 : Int32) (x8 : Int32) (σ : St) (H : Heap) (locs : List Loc) (ls : Array Slot), xW D KA layR stR ad ids (xA ad ids s.heap.size) s.heap σ H locs → lv_has ls 9 [(0, .ref (ad 0)), (2, .int x2), (6, .int x6), (7, .int x7), (8, .int x8)] → wX12_cut_95 k39 post x2 x6 x7 x8 σ → W p l e rmX12_cut s m args below meth c H locs 0 0 Q (F0 m 95 ls []) := by
    intro x2 k39 hk39 x6 x7 x8 σ H locs ls hW hl h
    unfold wX12_cut_95 at h
    refine lv_iload hx hb dX12_cut_95 (lv_at hl 2 rfl) ?_
    refine lv_istore_n (lv' := [(3, .int x6), (0, .ref (ad 0)), (2, .int x2), (6, .int x6), (7, .int x7), (8, .int x8)]) hx hb dX12_cut_97 rfl hl (by decide) rfl (fun ls hl => ?_)
    refine lv_iload hx hb dX12_cut_98 (lv_at hl 4 rfl) ?_
    refine lv_istore (lv' := [(4, .int x7), (3, .int x6), (0, .ref (ad 0)), (2, .int x2), (6, .int x6), (7, .int x7), (8, .int x8)]) hx hb dX12_cut_100 hl (by decide) rfl (fun ls hl => ?_)
    refine lv_iload hx hb dX12_cut_102 (lv_at hl 6 rfl) ?_
    refine lv_istore (lv' := [(5, .int x8), (4, .int x7), (3, .int x6), (0, .ref (ad 0)), (2, .int x2), (6, .int x6), (7, .int x7), (8, .int x8)]) hx hb dX12_cut_104 hl (by decide) rfl (fun ls hl => ?_)
    exact blk106 x2 k39 hk39 x6 x7 x8 x6 _ _ _ _ hW (lv_sub hl [3, 4, 2, 1, 0, 5] rfl) h
  have blk39 : ∀ (x2 : Int32) (n : Nat) (x3 : Int32) (x4 : Int32) (x5 : Int32) (x6 : Int32) (σ : St) (H : Heap) (locs : List Loc) (ls : Array Slot), xW D KA layR stR ad ids (xA ad ids s.heap.size) s.heap σ H locs → lv_has ls 9 [(0, .ref (ad 0)), (2, .int x2), (3, .int x3), (4, .int x4), (5, .int x5), (6, .int x6)] → wX12_cut_39 post x2 n x3 x4 x5 x6 σ → W p l e rmX12_cut s m args below meth c H locs 0 0 Q (F0 m 39 ls []) := by
    intro   x2 n
    induction n with
    | zero => intro x3 x4 x5 x6 σ H locs ls hW hl h; exact (h : False).elim
    | succ n ih =>
      intro x3 x4 x5 x6 σ H locs ls hW hl h
      have hk39 : ∀ (x3 : Int32) (x4 : Int32) (x5 : Int32) (x6 : Int32) (σ : St) (H : Heap) (locs : List Loc) (ls : Array Slot), xW D KA layR stR ad ids (xA ad ids s.heap.size) s.heap σ H locs → lv_has ls 9 [(0, .ref (ad 0)), (2, .int x2), (3, .int x3), (4, .int x4), (5, .int x5), (6, .int x6)] → (wX12_cut_39 post x2 n) x3 x4 x5 x6 σ → W p l e rmX12_cut s m args below meth c H locs 0 0 Q (F0 m 39 ls []) := fun x3 x4 x5 x6 σ H locs ls hW hl h => ih x3 x4 x5 x6 σ H locs ls hW hl h
      rw [wX12_cut_39_s] at h
      try dsimp only at h
      generalize wX12_cut_39 post x2 n = k39 at h hk39
      refine lv_iload hx hb dX12_cut_39 (lv_at hl 5 rfl) ?_
      refine lv_bipush (v := 99) hx hb dX12_cut_41 (by decide) ?_
      refine lv_icmp_gt (tgt := 112) hx hb dX12_cut_43 (by decide) (fun c2 => ?_) (fun c2 => ?_)
      · have h := h.1 c2
        refine lv_aload_n hx hb dX12_cut_112 rfl (lv_at hl 0 rfl) ?_
        refine lv_iconst (v := (-1)) hx hb dX12_cut_113 (by decide) ?_
        refine xpX12_29 hx hb hts hown hK hW 0 hcX12_cut_X12 (hI 0 (by decide)) lR_0 (hts _ hwX12_cut_0) dX12_cut_114 (fun σ3 H locs hσ3 hW => ?_)
        have h := h σ3 hσ3
        refine lv_iload_n hx hb dX12_cut_117 rfl (lv_at hl 1 rfl) ?_
        refine lv_if_ne (tgt := 125) hx hb dX12_cut_118 (by decide) (fun c4 => ?_) (fun c4 => ?_)
        · have h := h.1 c4
          refine lv_iload_n hx hb dX12_cut_125 rfl (lv_at hl 1 rfl) ?_
          refine lv_iconst (v := 1) hx hb dX12_cut_126 (by decide) ?_
          refine lv_icmp_ne (tgt := 135) hx hb dX12_cut_127 (by decide) (fun c5 => ?_) (fun c5 => ?_)
          · have h := h.1 c5
            refine lv_iload hx hb dX12_cut_135 (lv_at hl 4 rfl) ?_
            exact blk137   x5 _ _ _ _ hW (lv_sub hl [] rfl) h
          · have h := h.2 c5
            refine lv_iload hx hb dX12_cut_130 (lv_at hl 3 rfl) ?_
            refine lv_goto (tgt := 137) hx hb dX12_cut_132 (by decide) ?_
            exact blk137   x4 _ _ _ _ hW (lv_sub hl [] rfl) h
        · have h := h.2 c4
          refine lv_iload_n hx hb dX12_cut_121 rfl (lv_at hl 2 rfl) ?_
          refine lv_goto (tgt := 137) hx hb dX12_cut_122 (by decide) ?_
          exact blk137   x3 _ _ _ _ hW (lv_sub hl [] rfl) h
      · have h := h.2 c2
        refine lv_aload_n hx hb dX12_cut_46 rfl (lv_at hl 0 rfl) ?_
        refine lv_iload hx hb dX12_cut_47 (lv_at hl 5 rfl) ?_
        refine xpX12_30 hx hb hts hown hK hW 0 hcX12_cut_X12 (hI 0 (by decide)) lR_0 (hts _ hwX12_cut_1) dX12_cut_49 (fun σ6 H locs hσ6 hW => ?_)
        have h := h σ6 hσ6
        refine lv_aload_n hx hb dX12_cut_52 rfl (lv_at hl 0 rfl) ?_
        refine x_calli (va_runV (As := []) (rest := []) ⟨hx, hb, hml, hown, hts⟩ (J_X12_wells l hI h) (cwV 0 hts gX12_cut_X12_wells rfl rfl rfl hdV_X12_wells ⟨Nat.le_of_ble_eq_true rfl, Nat.le_of_ble_eq_true rfl⟩) (x_preV (ci := 12) hK hZ hA hW (hI 0 (by decide)) lR_0 rfl) rfl rfl hl.1 rfl (lv_room (Nat.le_of_ble_eq_true rfl)) dX12_cut_53 ⟨Nat.zero_le _, Nat.zero_le _⟩) hW hA (fun r8 σ7 H locs h hW => ?_)
        try dsimp only at h
        refine lv_istore (lv' := [(7, .int r8), (0, .ref (ad 0)), (2, .int x2), (3, .int x3), (4, .int x4), (5, .int x5), (6, .int x6)]) hx hb dX12_cut_56 hl (by decide) rfl (fun ls hl => ?_)
        refine lv_aload_n hx hb dX12_cut_58 rfl (lv_at hl 1 rfl) ?_
        refine lv_iload hx hb dX12_cut_59 (lv_at hl 6 rfl) ?_
        refine x_calli (va_runV (As := [.int x6]) (rest := []) ⟨hx, hb, hml, hown, hts⟩ (J_X12_wantOf l hI h) (cwV 1 hts gX12_cut_X12_wantOf rfl rfl rfl hdV_X12_wantOf ⟨Nat.le_of_ble_eq_true rfl, Nat.le_of_ble_eq_true rfl⟩) (x_preV (ci := 12) hK hZ hA hW (hI 0 (by decide)) lR_0 rfl) rfl rfl hl.1 rfl (lv_room (Nat.le_of_ble_eq_true rfl)) dX12_cut_61 ⟨Nat.zero_le _, Nat.zero_le _⟩) hW hA (fun r10 σ9 H locs h hW => ?_)
        try dsimp only at h
        refine lv_istore (lv' := [(8, .int r10), (7, .int r8), (0, .ref (ad 0)), (2, .int x2), (3, .int x3), (4, .int x4), (5, .int x5), (6, .int x6)]) hx hb dX12_cut_64 hl (by decide) rfl (fun ls hl => ?_)
        refine lv_iload_n hx hb dX12_cut_66 rfl (lv_at hl 4 rfl) ?_
        refine lv_iconst (v := (-1)) hx hb dX12_cut_67 (by decide) ?_
        refine lv_icmp_eq (tgt := 95) hx hb dX12_cut_68 (by decide) (fun c11 => ?_) (fun c11 => ?_)
        · have h := h.1 c11
          exact blk95 x2 k39 hk39 x6 r8 r10 _ _ _ _ hW (lv_sub hl [2, 3, 7, 1, 0] rfl) h
        · have h := h.2 c11
          refine lv_iload hx hb dX12_cut_71 (lv_at hl 1 rfl) ?_
          refine lv_iload hx hb dX12_cut_73 (lv_at hl 5 rfl) ?_
          refine lv_icmp_lt (tgt := 106) hx hb dX12_cut_75 (by decide) (fun c12 => ?_) (fun c12 => ?_)
          · have h := h.1 c12
            exact blk106 x2 k39 hk39 x3 x4 x5 x6 _ _ _ _ hW (lv_sub hl [2, 3, 4, 5, 6, 7] rfl) h
          · have h := h.2 c12
            refine lv_iload hx hb dX12_cut_78 (lv_at hl 1 rfl) ?_
            refine lv_iload hx hb dX12_cut_80 (lv_at hl 5 rfl) ?_
            refine lv_icmp_ne (tgt := 95) hx hb dX12_cut_82 (by decide) (fun c13 => ?_) (fun c13 => ?_)
            · have h := h.1 c13
              exact blk95 x2 k39 hk39 x6 r8 r10 _ _ _ _ hW (lv_sub hl [2, 3, 7, 1, 0] rfl) h
            · have h := h.2 c13
              refine lv_iload hx hb dX12_cut_85 (lv_at hl 0 rfl) ?_
              refine lv_iload hx hb dX12_cut_87 (lv_at hl 6 rfl) ?_
              refine lv_icmp_lt (tgt := 95) hx hb dX12_cut_89 (by decide) (fun c14 => ?_) (fun c14 => ?_)
              · have h := h.1 c14
                exact blk95 x2 k39 hk39 x6 r8 r10 _ _ _ _ hW (lv_sub hl [2, 3, 7, 1, 0] rfl) h
              · have h := h.2 c14
                refine lv_goto (tgt := 106) hx hb dX12_cut_92 (by decide) ?_
                exact blk106 x2 k39 hk39 x3 x4 x5 x6 _ _ _ _ hW (lv_sub hl [2, 3, 4, 5, 6, 7] rfl) h
  have blk20 : ∀ (σ : St) (H : Heap) (locs : List Loc) (ls : Array Slot), xW D KA layR stR ad ids (xA ad ids s.heap.size) s.heap σ H locs → lv_has ls 9 [] → wX12_cut_20 post  σ → W p l e rmX12_cut s m args below meth c H locs 0 0 Q (F0 m 20 ls []) := by
    intro    σ H locs ls hW hl h
    unfold wX12_cut_20 at h
    refine lv_bipush (v := (-2)) hx hb dX12_cut_20 (by decide) ?_
    exact kr _ _ _ _ _ _ hW h dX12_cut_22
  have main : ∀ (H : Heap) (locs : List Loc) (ls : Array Slot), xW D KA layR stR ad ids (xA ad ids s.heap.size) s.heap σ H locs → lv_has ls 9 [(0, .ref (ad 0)), (1, .int a1), (2, .int a2)] → W p l e rmX12_cut s m args below meth c H locs 0 0 Q (F0 m 0 ls []) := by
    intro H locs ls hW hl
    unfold wX12_cut at h
    refine lv_aload_n hx hb dX12_cut_0 rfl (lv_at hl 0 rfl) ?_
    refine lv_iload_n hx hb dX12_cut_1 rfl (lv_at hl 1 rfl) ?_
    refine x_calli (va_runV (As := [.int a1]) (rest := []) ⟨hx, hb, hml, hown, hts⟩ (J_X12_isBelt l hI h) (cwV 1 hts gX12_cut_X12_isBelt rfl rfl rfl hdV_X12_isBelt ⟨Nat.le_of_ble_eq_true rfl, Nat.le_of_ble_eq_true rfl⟩) (x_preV (ci := 12) hK hZ hA hW (hI 0 (by decide)) lR_0 rfl) rfl rfl hl.1 rfl (lv_room (Nat.le_of_ble_eq_true rfl)) dX12_cut_2 ⟨Nat.zero_le _, Nat.zero_le _⟩) hW hA (fun r1002 σ1001 H locs h hW => ?_)
    try dsimp only at h
    refine lv_if_eq (tgt := 20) hx hb dX12_cut_5 (by decide) (fun c1003 => ?_) (fun c1003 => ?_)
    · have h := h.1 c1003
      exact blk20    _ _ _ _ hW (lv_sub hl [] rfl) h
    · have h := h.2 c1003
      refine lv_iload_n hx hb dX12_cut_8 rfl (lv_at hl 2 rfl) ?_
      refine lv_i2l hx hb dX12_cut_9 rfl ?_
      refine lv_lconst (v := 0) hx hb dX12_cut_10 (by decide) ?_
      refine lv_ldc2 hx hb hown (hts _ hwX12_cut_2) dX12_cut_11 ?_
      refine x_calli (va_runS (As := [.long (a2.toInt64), .long (0 : Int64), .long (2 : Int64)]) (rest := []) ⟨hx, hb, hml, hown, hts⟩ (J_X12_in l hI h) (va_cwS 3 hts gX12_cut_X12_in rfl rfl rfl hdS_X12_in ⟨Nat.le_of_ble_eq_true rfl, Nat.le_of_ble_eq_true rfl⟩) (x_preS hK hZ hA hW) rfl rfl hl.1 rfl (lv_room (Nat.le_of_ble_eq_true rfl)) dX12_cut_14 ⟨Nat.zero_le _, Nat.zero_le _⟩) hW hA (fun r1005 σ1004 H locs h hW => ?_)
      try dsimp only at h
      refine lv_if_ne (tgt := 23) hx hb dX12_cut_17 (by decide) (fun c1006 => ?_) (fun c1006 => ?_)
      · have h := h.1 c1006
        refine lv_iconst (v := (-1)) hx hb dX12_cut_23 (by decide) ?_
        refine lv_istore_n (lv' := [(3, .int (-1 : Int32)), (0, .ref (ad 0)), (1, .int a1), (2, .int a2)]) hx hb dX12_cut_24 rfl hl (by decide) rfl (fun ls hl => ?_)
        refine lv_iconst (v := 0) hx hb dX12_cut_25 (by decide) ?_
        refine lv_istore (lv' := [(4, .int (0 : Int32)), (3, .int (-1 : Int32)), (0, .ref (ad 0)), (1, .int a1), (2, .int a2)]) hx hb dX12_cut_26 hl (by decide) rfl (fun ls hl => ?_)
        refine lv_iconst (v := 0) hx hb dX12_cut_28 (by decide) ?_
        refine lv_istore (lv' := [(5, .int (0 : Int32)), (4, .int (0 : Int32)), (3, .int (-1 : Int32)), (0, .ref (ad 0)), (1, .int a1), (2, .int a2)]) hx hb dX12_cut_29 hl (by decide) rfl (fun ls hl => ?_)
        refine lv_aload_n hx hb dX12_cut_31 rfl (lv_at hl 3 rfl) ?_
        refine lv_iload_n hx hb dX12_cut_32 rfl (lv_at hl 4 rfl) ?_
        refine xpX12_29 hx hb hts hown hK hW 0 hcX12_cut_X12 (hI 0 (by decide)) lR_0 (hts _ hwX12_cut_0) dX12_cut_33 (fun σ1007 H locs hσ1007 hW => ?_)
        have h := h σ1007 hσ1007
        refine lv_iconst (v := 1) hx hb dX12_cut_36 (by decide) ?_
        refine lv_istore (lv' := [(6, .int (1 : Int32)), (5, .int (0 : Int32)), (4, .int (0 : Int32)), (3, .int (-1 : Int32)), (0, .ref (ad 0)), (1, .int a1), (2, .int a2)]) hx hb dX12_cut_37 hl (by decide) rfl (fun ls hl => ?_)
        obtain ⟨n, h⟩ := h
        exact blk39   a2 n (-1 : Int32) (0 : Int32) (0 : Int32) (1 : Int32) _ _ _ _ hW (lv_sub hl [4, 6, 3, 2, 1, 0] rfl) h
      · have h := h.2 c1006
        exact blk20    _ _ _ _ hW (lv_sub hl [] rfl) h
  exact main _ _ _ hW hl
theorem hwX12_from_0 : (.fieldLink RX12 166 "FortyBeltsModel" "belts" "I" : Cond) ∈ wsX12_from := (List.mem_cons_of_mem _ (List.mem_append_left _ (List.mem_of_getElem? (i := 0) rfl)))
theorem hwX12_from_1 : (.fieldLink RX12 68 "FortyBeltsModel" "isOn" "[I" : Cond) ∈ wsX12_from := (List.mem_cons_of_mem _ (List.mem_append_left _ (List.mem_of_getElem? (i := 1) rfl)))
theorem hwX12_from_2 : (.fieldLink RX12 53 "FortyBeltsModel" "driver" "[I" : Cond) ∈ wsX12_from := (List.mem_cons_of_mem _ (List.mem_append_left _ (List.mem_of_getElem? (i := 2) rfl)))
theorem hwX12_from_3 : (.fieldLink RX12 56 "FortyBeltsModel" "driven" "[I" : Cond) ∈ wsX12_from := (List.mem_cons_of_mem _ (List.mem_append_left _ (List.mem_of_getElem? (i := 3) rfl)))
theorem hcX12_from_X12 : ∀ w ∈ wsX120, w ∈ wsX12_from := fun _ h => (List.mem_cons_of_mem _ (List.mem_append_right _ h))
set_option maxHeartbeats 4000000 in
set_option maxRecDepth 100000 in
theorem J_X12_from {D : va_G} {KA : Nat → ClassId} {zs : ZS} {ad : Nat → Nat} {ids : List Nat} {sz : Nat} (l : Launch) (hI : ∀ c, c < 35 → c ∈ ids) {a1 : Int32}  {σ : St} {post : Int32 → St → Prop} (h : wX12_from  a1 σ post) : Met l yX12_from wsX12_from rmX12_from (va_Pc [.ref (ad 0), .int a1] (xIn D KA zs layR stR ad ids sz σ)) (va_Qi post (xOut D KA layR stR ad ids) (xA ad ids sz)) 0 0 (xA ad ids sz) := by
  refine Met.ofW (cc := cX12_from) (maxL := 5) (ret := (some .int)) (by decide) rfl ?_
  intro p e s m args below meth c s₁ B hml hv
  obtain ⟨hav, hsz, hK, hZ, hP, hD⟩ := hv
  have hx := B.exec
  have hb := B.bytes
  have hr := B.returns
  have hts := atoms_spec (ws := wsX12_from) B.pre
  have hown : s.vm.findClass RX12 = some m.cls := findClass_of_methodNamed B.named
  have hlocks := B.notSynchronized
  subst hsz
  have hA : ∀ q : Nat, s.heap.size ≤ q → xA ad ids s.heap.size q := fun q h => Or.inr h
  have hW : xW D KA layR stR ad ids (xA ad ids s.heap.size) s.heap σ s.heap [] := ⟨hP, xA_D (D := D) hD, va_S.rf⟩
  have kr : ∀ (v : Int32) (σ : St) (H : Heap) (locs : List Loc) (ls : Array Slot) (pc : Nat), xW D KA layR stR ad ids (xA ad ids s.heap.size) s.heap σ H locs → post v σ → decode cX12_from pc = .ok (.ireturn, 1) → W p l e rmX12_from s m args below meth c H locs 0 0 (MQ below (va_Qi post (xOut D KA layR stR ad ids) (xA ad ids s.heap.size)) args s 0 0 (xA ad ids s.heap.size)) (F0 m pc ls [.int v]) := fun v σ H locs ls pc hW h hd => x_iret hx hb hr hlocks hW h hd
  have hl := lv_entry ([.ref (ad 0), .int a1]) (n := 5) (Nat.le_of_ble_eq_true rfl)
  rw [show entryFrame m args 5 = entryFrame m ([.ref (ad 0), .int a1] : List Value).toArray 5 from by rw [hav]]
  rw [lg_entry_eq]
  generalize (lg_sl ([.ref (ad 0), .int a1]) ++ List.replicate (5 - (lg_sl ([.ref (ad 0), .int a1])).length) Slot.unset).toArray = ls at hl ⊢
  have hl : lv_has ls 5 [(0, .ref (ad 0)), (1, .int a1)] := hl
  show W p l e rmX12_from s m args below meth c s.heap [] 0 0 _ _
  generalize MQ below (va_Qi post (xOut D KA layR stR ad ids) (xA ad ids s.heap.size)) args s 0 0 (xA ad ids s.heap.size) = Q at kr ⊢
  have blk65 : ∀ (x3 : Int32) (k6 : Int32 → Int32 → St → Prop) (hk6 : ∀ (x2 : Int32) (x3 : Int32) (σ : St) (H : Heap) (locs : List Loc) (ls : Array Slot), xW D KA layR stR ad ids (xA ad ids s.heap.size) s.heap σ H locs → lv_has ls 5 [(0, .ref (ad 0)), (2, .int x2), (3, .int x3)] → k6 x2 x3 σ → W p l e rmX12_from s m args below meth c H locs 0 0 Q (F0 m 6 ls [])) (k16 : Int32 → Int32 → St → Prop) (hk16 : ∀ (x2 : Int32) (x4 : Int32) (σ : St) (H : Heap) (locs : List Loc) (ls : Array Slot), xW D KA layR stR ad ids (xA ad ids s.heap.size) s.heap σ H locs → lv_has ls 5 [(0, .ref (ad 0)), (2, .int x2), (3, .int x3), (4, .int x4)] → k16 x2 x4 σ → W p l e rmX12_from s m args below meth c H locs 0 0 Q (F0 m 16 ls [])) (x4 : Int32) (s0 : Int32) (s1 : Int32) (σ : St) (H : Heap) (locs : List Loc) (ls : Array Slot), xW D KA layR stR ad ids (xA ad ids s.heap.size) s.heap σ H locs → lv_has ls 5 [(0, .ref (ad 0)), (3, .int x3), (4, .int x4)] → wX12_from_65 k6 k16 post x3 x4 s0 s1 σ → W p l e rmX12_from s m args below meth c H locs 0 0 Q (F0 m 65 ls [.int s1, .int s0]) := by
    intro x3 k6 hk6 k16 hk16 x4 s0 s1 σ H locs ls hW hl h
    unfold wX12_from_65 at h
    refine lv_ior hx hb dX12_from_65 ?_
    refine lv_topi (fun v1 hv1 => ?_)
    have h := h v1 hv1
    refine lv_istore_n (lv' := [(2, .int v1), (0, .ref (ad 0)), (3, .int x3), (4, .int x4)]) hx hb dX12_from_66 rfl hl (by decide) rfl (fun ls hl => ?_)
    obtain ⟨v2, hv2⟩ : ∃ y : Int32, y = x4 + (1 : Int32) := ⟨_, rfl⟩
    have h := h v2 hv2
    refine lv_iinc (v := v2) (lv' := [(4, .int v2), (2, .int v1), (0, .ref (ad 0)), (3, .int x3)]) hx hb dX12_from_67 hl (k := 3) rfl (by rw [hv2]; rfl) (by decide) rfl (fun ls hl => ?_)
    refine lv_goto (tgt := 16) hx hb dX12_from_70 (by decide) ?_
    exact hk16 v1 v2 _ _ _ _ hW (lv_sub hl [2, 1, 3, 0] rfl) h
  have blk64 : ∀ (x3 : Int32) (k6 : Int32 → Int32 → St → Prop) (hk6 : ∀ (x2 : Int32) (x3 : Int32) (σ : St) (H : Heap) (locs : List Loc) (ls : Array Slot), xW D KA layR stR ad ids (xA ad ids s.heap.size) s.heap σ H locs → lv_has ls 5 [(0, .ref (ad 0)), (2, .int x2), (3, .int x3)] → k6 x2 x3 σ → W p l e rmX12_from s m args below meth c H locs 0 0 Q (F0 m 6 ls [])) (k16 : Int32 → Int32 → St → Prop) (hk16 : ∀ (x2 : Int32) (x4 : Int32) (σ : St) (H : Heap) (locs : List Loc) (ls : Array Slot), xW D KA layR stR ad ids (xA ad ids s.heap.size) s.heap σ H locs → lv_has ls 5 [(0, .ref (ad 0)), (2, .int x2), (3, .int x3), (4, .int x4)] → k16 x2 x4 σ → W p l e rmX12_from s m args below meth c H locs 0 0 Q (F0 m 16 ls [])) (x4 : Int32) (s0 : Int32) (σ : St) (H : Heap) (locs : List Loc) (ls : Array Slot), xW D KA layR stR ad ids (xA ad ids s.heap.size) s.heap σ H locs → lv_has ls 5 [(0, .ref (ad 0)), (3, .int x3), (4, .int x4)] → wX12_from_64 k6 k16 post x3 x4 s0 σ → W p l e rmX12_from s m args below meth c H locs 0 0 Q (F0 m 64 ls [.int s0]) := by
    intro x3 k6 hk6 k16 hk16 x4 s0 σ H locs ls hW hl h
    unfold wX12_from_64 at h
    refine lv_iconst (v := 0) hx hb dX12_from_64 (by decide) ?_
    exact blk65 x3 k6 hk6 k16 hk16 x4 s0 (0 : Int32) _ _ _ _ hW (lv_sub hl [0, 1, 2] rfl) h
  have blk16 : ∀ (k6 : Int32 → Int32 → St → Prop) (hk6 : ∀ (x2 : Int32) (x3 : Int32) (σ : St) (H : Heap) (locs : List Loc) (ls : Array Slot), xW D KA layR stR ad ids (xA ad ids s.heap.size) s.heap σ H locs → lv_has ls 5 [(0, .ref (ad 0)), (2, .int x2), (3, .int x3)] → k6 x2 x3 σ → W p l e rmX12_from s m args below meth c H locs 0 0 Q (F0 m 6 ls [])) (x3 : Int32) (n : Nat) (x2 : Int32) (x4 : Int32) (σ : St) (H : Heap) (locs : List Loc) (ls : Array Slot), xW D KA layR stR ad ids (xA ad ids s.heap.size) s.heap σ H locs → lv_has ls 5 [(0, .ref (ad 0)), (2, .int x2), (3, .int x3), (4, .int x4)] → wX12_from_16 k6 post x3 n x2 x4 σ → W p l e rmX12_from s m args below meth c H locs 0 0 Q (F0 m 16 ls []) := by
    intro  k6 hk6 x3 n
    induction n with
    | zero => intro x2 x4 σ H locs ls hW hl h; exact (h : False).elim
    | succ n ih =>
      intro x2 x4 σ H locs ls hW hl h
      have hk16 : ∀ (x2 : Int32) (x4 : Int32) (σ : St) (H : Heap) (locs : List Loc) (ls : Array Slot), xW D KA layR stR ad ids (xA ad ids s.heap.size) s.heap σ H locs → lv_has ls 5 [(0, .ref (ad 0)), (2, .int x2), (3, .int x3), (4, .int x4)] → (wX12_from_16 k6 post x3 n) x2 x4 σ → W p l e rmX12_from s m args below meth c H locs 0 0 Q (F0 m 16 ls []) := fun x2 x4 σ H locs ls hW hl h => ih x2 x4 σ H locs ls hW hl h
      rw [wX12_from_16_s] at h
      try dsimp only at h
      generalize wX12_from_16 k6 post x3 n = k16 at h hk16
      refine lv_iload hx hb dX12_from_16 (lv_at hl 3 rfl) ?_
      refine lv_aload_n hx hb dX12_from_18 rfl (lv_at hl 0 rfl) ?_
      refine xgX12_28 hx hb hts hown hK hW 0 hcX12_from_X12 (hI 0 (by decide)) lR_0 (hts _ hwX12_from_0) dX12_from_19 ?_
      refine lv_icmp_ge (tgt := 73) hx hb dX12_from_22 (by decide) (fun c3 => ?_) (fun c3 => ?_)
      · have h := h.1 c3
        refine lv_goto (tgt := 6) hx hb dX12_from_73 (by decide) ?_
        exact hk6 x2 x3 _ _ _ _ hW (lv_sub hl [0, 1, 2] rfl) h
      · have h := h.2 c3
        refine lv_iload_n hx hb dX12_from_25 rfl (lv_at hl 1 rfl) ?_
        refine lv_aload_n hx hb dX12_from_26 rfl (lv_at hl 0 rfl) ?_
        refine xgX12_27r hx hb hts hown hK hW 0 hcX12_from_X12 (hI 0 (by decide)) lR_0 (hts _ hwX12_from_1) (sR_0_27 _) dX12_from_27 ?_
        refine lv_iload hx hb dX12_from_30 (lv_at hl 3 rfl) ?_
        obtain ⟨hi4, h⟩ := h
        refine x_iald hx hb hK hW 19 (hI 19 (by decide)) lR_19 hi4 dX12_from_32 ?_
        refine lv_iconst (v := 1) hx hb dX12_from_33 (by decide) ?_
        refine lv_icmp_ne (tgt := 64) hx hb dX12_from_34 (by decide) (fun c5 => ?_) (fun c5 => ?_)
        · have h := h.1 c5
          exact blk64 x3 k6 hk6 k16 hk16 x4 x2 _ _ _ _ hW (lv_sub hl [0, 2, 3] rfl) h
        · have h := h.2 c5
          refine lv_iload_n hx hb dX12_from_37 rfl (lv_at hl 1 rfl) ?_
          refine lv_aload_n hx hb dX12_from_38 rfl (lv_at hl 0 rfl) ?_
          refine xgX12_22r hx hb hts hown hK hW 0 hcX12_from_X12 (hI 0 (by decide)) lR_0 (hts _ hwX12_from_2) (sR_0_22 _) dX12_from_39 ?_
          refine lv_iload hx hb dX12_from_42 (lv_at hl 3 rfl) ?_
          refine x_iald hx hb hK hW 14 (hI 14 (by decide)) lR_14 hi4 dX12_from_44 ?_
          refine lv_ishr hx hb dX12_from_45 ?_
          refine lv_iconst (v := 1) hx hb dX12_from_46 (by decide) ?_
          refine lv_iand hx hb dX12_from_47 ?_
          refine lv_iconst (v := 1) hx hb dX12_from_48 (by decide) ?_
          refine lv_icmp_ne (tgt := 64) hx hb dX12_from_49 (by decide) (fun c7 => ?_) (fun c7 => ?_)
          · have h := h.1 c7
            exact blk64 x3 k6 hk6 k16 hk16 x4 x2 _ _ _ _ hW (lv_sub hl [0, 2, 3] rfl) h
          · have h := h.2 c7
            refine lv_iconst (v := 1) hx hb dX12_from_52 (by decide) ?_
            refine lv_aload_n hx hb dX12_from_53 rfl (lv_at hl 0 rfl) ?_
            refine xgX12_23r hx hb hts hown hK hW 0 hcX12_from_X12 (hI 0 (by decide)) lR_0 (hts _ hwX12_from_3) (sR_0_23 _) dX12_from_54 ?_
            refine lv_iload hx hb dX12_from_57 (lv_at hl 3 rfl) ?_
            refine x_iald hx hb hK hW 15 (hI 15 (by decide)) lR_15 hi4 dX12_from_59 ?_
            refine lv_ishl hx hb dX12_from_60 ?_
            refine lv_goto (tgt := 65) hx hb dX12_from_61 (by decide) ?_
            exact blk65 x3 k6 hk6 k16 hk16 x4 x2 ((1 : Int32) <<< ((gI σ 15 x4.toNatClampNeg) &&& 31)) _ _ _ _ hW (lv_sub hl [0, 2, 3] rfl) h
  have blk6 : ∀ (n : Nat) (x2 : Int32) (x3 : Int32) (σ : St) (H : Heap) (locs : List Loc) (ls : Array Slot), xW D KA layR stR ad ids (xA ad ids s.heap.size) s.heap σ H locs → lv_has ls 5 [(0, .ref (ad 0)), (2, .int x2), (3, .int x3)] → wX12_from_6 post  n x2 x3 σ → W p l e rmX12_from s m args below meth c H locs 0 0 Q (F0 m 6 ls []) := by
    intro    n
    induction n with
    | zero => intro x2 x3 σ H locs ls hW hl h; exact (h : False).elim
    | succ n ih =>
      intro x2 x3 σ H locs ls hW hl h
      have hk6 : ∀ (x2 : Int32) (x3 : Int32) (σ : St) (H : Heap) (locs : List Loc) (ls : Array Slot), xW D KA layR stR ad ids (xA ad ids s.heap.size) s.heap σ H locs → lv_has ls 5 [(0, .ref (ad 0)), (2, .int x2), (3, .int x3)] → (wX12_from_6 post  n) x2 x3 σ → W p l e rmX12_from s m args below meth c H locs 0 0 Q (F0 m 6 ls []) := fun x2 x3 σ H locs ls hW hl h => ih x2 x3 σ H locs ls hW hl h
      rw [wX12_from_6_s] at h
      try dsimp only at h
      generalize wX12_from_6 post  n = k6 at h hk6
      refine lv_iload_n hx hb dX12_from_6 rfl (lv_at hl 1 rfl) ?_
      refine lv_iload_n hx hb dX12_from_7 rfl (lv_at hl 2 rfl) ?_
      refine lv_icmp_eq (tgt := 76) hx hb dX12_from_8 (by decide) (fun c9 => ?_) (fun c9 => ?_)
      · have h := h.1 c9
        refine lv_iload_n hx hb dX12_from_76 rfl (lv_at hl 1 rfl) ?_
        exact kr _ _ _ _ _ _ hW h dX12_from_77
      · have h := h.2 c9
        refine lv_iload_n hx hb dX12_from_11 rfl (lv_at hl 1 rfl) ?_
        refine lv_istore_n (lv' := [(3, .int x2), (0, .ref (ad 0)), (2, .int x2)]) hx hb dX12_from_12 rfl hl (by decide) rfl (fun ls hl => ?_)
        refine lv_iconst (v := 0) hx hb dX12_from_13 (by decide) ?_
        refine lv_istore (lv' := [(4, .int (0 : Int32)), (3, .int x2), (0, .ref (ad 0)), (2, .int x2)]) hx hb dX12_from_14 hl (by decide) rfl (fun ls hl => ?_)
        obtain ⟨n, h⟩ := h
        exact blk16  k6 hk6 x2 n x2 (0 : Int32) _ _ _ _ hW (lv_sub hl [2, 3, 1, 0] rfl) h
  have main : ∀ (H : Heap) (locs : List Loc) (ls : Array Slot), xW D KA layR stR ad ids (xA ad ids s.heap.size) s.heap σ H locs → lv_has ls 5 [(0, .ref (ad 0)), (1, .int a1)] → W p l e rmX12_from s m args below meth c H locs 0 0 Q (F0 m 0 ls []) := by
    intro H locs ls hW hl
    unfold wX12_from at h
    refine lv_iconst (v := 1) hx hb dX12_from_0 (by decide) ?_
    refine lv_iload_n hx hb dX12_from_1 rfl (lv_at hl 1 rfl) ?_
    refine lv_ishl hx hb dX12_from_2 ?_
    refine lv_topi (fun v1001 hv1001 => ?_)
    have h := h v1001 hv1001
    refine lv_istore_n (lv' := [(2, .int v1001), (0, .ref (ad 0)), (1, .int a1)]) hx hb dX12_from_3 rfl hl (by decide) rfl (fun ls hl => ?_)
    refine lv_iconst (v := 0) hx hb dX12_from_4 (by decide) ?_
    refine lv_istore_n (lv' := [(3, .int (0 : Int32)), (2, .int v1001), (0, .ref (ad 0)), (1, .int a1)]) hx hb dX12_from_5 rfl hl (by decide) rfl (fun ls hl => ?_)
    obtain ⟨n, h⟩ := h
    exact blk6    n v1001 (0 : Int32) _ _ _ _ hW (lv_sub hl [2, 1, 0] rfl) h
  exact main _ _ _ hW hl
theorem hwX12_pullOf_0 : (.fieldLink RX12 160 "FortyBeltsModel" "machines" "I" : Cond) ∈ wsX12_pullOf := (List.mem_cons_of_mem _ (List.mem_append_left _ (List.mem_append_left _ (List.mem_of_getElem? (i := 2) rfl))))
theorem hwX12_pullOf_1 : (.fieldLink RX12 29 "FortyBeltsModel" "shaftOf" "[I" : Cond) ∈ wsX12_pullOf := (List.mem_cons_of_mem _ (List.mem_append_left _ (List.mem_append_left _ (List.mem_of_getElem? (i := 3) rfl))))
theorem hwX12_pullOf_2 : (.fieldLink RX12 68 "FortyBeltsModel" "isOn" "[I" : Cond) ∈ wsX12_pullOf := (List.mem_cons_of_mem _ (List.mem_append_left _ (List.mem_append_left _ (List.mem_of_getElem? (i := 0) rfl))))
theorem hwX12_pullOf_3 : (.fieldLink RX12 56 "FortyBeltsModel" "driven" "[I" : Cond) ∈ wsX12_pullOf := (List.mem_cons_of_mem _ (List.mem_append_left _ (List.mem_append_left _ (List.mem_of_getElem? (i := 1) rfl))))
theorem hcX12_pullOf_X12 : ∀ w ∈ wsX120, w ∈ wsX12_pullOf := fun _ h => (List.mem_cons_of_mem _ (List.mem_append_right _ h))
set_option maxHeartbeats 4000000 in
set_option maxRecDepth 100000 in
theorem J_X12_pullOf {D : va_G} {KA : Nat → ClassId} {zs : ZS} {ad : Nat → Nat} {ids : List Nat} {sz : Nat} (l : Launch) (hI : ∀ c, c < 35 → c ∈ ids) {a1 : Int32}  {σ : St} {post : Int32 → St → Prop} (h : wX12_pullOf  a1 σ post) : Met l yX12_pullOf wsX12_pullOf rmX12_pullOf (va_Pc [.ref (ad 0), .int a1] (xIn D KA zs layR stR ad ids sz σ)) (va_Qi post (xOut D KA layR stR ad ids) (xA ad ids sz)) 0 0 (xA ad ids sz) := by
  refine Met.ofW (cc := cX12_pullOf) (maxL := 5) (ret := (some .int)) (by decide) rfl ?_
  intro p e s m args below meth c s₁ B hml hv
  obtain ⟨hav, hsz, hK, hZ, hP, hD⟩ := hv
  have hx := B.exec
  have hb := B.bytes
  have hr := B.returns
  have hts := atoms_spec (ws := wsX12_pullOf) B.pre
  have hown : s.vm.findClass RX12 = some m.cls := findClass_of_methodNamed B.named
  have hlocks := B.notSynchronized
  subst hsz
  have hA : ∀ q : Nat, s.heap.size ≤ q → xA ad ids s.heap.size q := fun q h => Or.inr h
  have hW : xW D KA layR stR ad ids (xA ad ids s.heap.size) s.heap σ s.heap [] := ⟨hP, xA_D (D := D) hD, va_S.rf⟩
  have kr : ∀ (v : Int32) (σ : St) (H : Heap) (locs : List Loc) (ls : Array Slot) (pc : Nat), xW D KA layR stR ad ids (xA ad ids s.heap.size) s.heap σ H locs → post v σ → decode cX12_pullOf pc = .ok (.ireturn, 1) → W p l e rmX12_pullOf s m args below meth c H locs 0 0 (MQ below (va_Qi post (xOut D KA layR stR ad ids) (xA ad ids s.heap.size)) args s 0 0 (xA ad ids s.heap.size)) (F0 m pc ls [.int v]) := fun v σ H locs ls pc hW h hd => x_iret hx hb hr hlocks hW h hd
  have hl := lv_entry ([.ref (ad 0), .int a1]) (n := 5) (Nat.le_of_ble_eq_true rfl)
  rw [show entryFrame m args 5 = entryFrame m ([.ref (ad 0), .int a1] : List Value).toArray 5 from by rw [hav]]
  rw [lg_entry_eq]
  generalize (lg_sl ([.ref (ad 0), .int a1]) ++ List.replicate (5 - (lg_sl ([.ref (ad 0), .int a1])).length) Slot.unset).toArray = ls at hl ⊢
  have hl : lv_has ls 5 [(0, .ref (ad 0)), (1, .int a1)] := hl
  show W p l e rmX12_pullOf s m args below meth c s.heap [] 0 0 _ _
  generalize MQ below (va_Qi post (xOut D KA layR stR ad ids) (xA ad ids s.heap.size)) args s 0 0 (xA ad ids s.heap.size) = Q at kr ⊢
  have blk62 : ∀ (x2 : Int32) (k27 : Int32 → Int32 → St → Prop) (hk27 : ∀ (x3 : Int32) (x4 : Int32) (σ : St) (H : Heap) (locs : List Loc) (ls : Array Slot), xW D KA layR stR ad ids (xA ad ids s.heap.size) s.heap σ H locs → lv_has ls 5 [(0, .ref (ad 0)), (2, .int x2), (3, .int x3), (4, .int x4)] → k27 x3 x4 σ → W p l e rmX12_pullOf s m args below meth c H locs 0 0 Q (F0 m 27 ls [])) (x4 : Int32) (s0 : Int32) (s1 : Int32) (σ : St) (H : Heap) (locs : List Loc) (ls : Array Slot), xW D KA layR stR ad ids (xA ad ids s.heap.size) s.heap σ H locs → lv_has ls 5 [(0, .ref (ad 0)), (2, .int x2), (4, .int x4)] → wX12_pullOf_62 k27 post x2 x4 s0 s1 σ → W p l e rmX12_pullOf s m args below meth c H locs 0 0 Q (F0 m 62 ls [.int s1, .int s0]) := by
    intro x2 k27 hk27 x4 s0 s1 σ H locs ls hW hl h
    unfold wX12_pullOf_62 at h
    refine lv_iadd hx hb dX12_pullOf_62 ?_
    refine lv_topi (fun v1 hv1 => ?_)
    have h := h v1 hv1
    refine lv_istore_n (lv' := [(3, .int v1), (0, .ref (ad 0)), (2, .int x2), (4, .int x4)]) hx hb dX12_pullOf_63 rfl hl (by decide) rfl (fun ls hl => ?_)
    obtain ⟨v2, hv2⟩ : ∃ y : Int32, y = x4 + (1 : Int32) := ⟨_, rfl⟩
    have h := h v2 hv2
    refine lv_iinc (v := v2) (lv' := [(4, .int v2), (3, .int v1), (0, .ref (ad 0)), (2, .int x2)]) hx hb dX12_pullOf_64 hl (k := 3) rfl (by rw [hv2]; rfl) (by decide) rfl (fun ls hl => ?_)
    refine lv_goto (tgt := 27) hx hb dX12_pullOf_67 (by decide) ?_
    exact hk27 v1 v2 _ _ _ _ hW (lv_sub hl [2, 3, 1, 0] rfl) h
  have blk27 : ∀ (x2 : Int32) (n : Nat) (x3 : Int32) (x4 : Int32) (σ : St) (H : Heap) (locs : List Loc) (ls : Array Slot), xW D KA layR stR ad ids (xA ad ids s.heap.size) s.heap σ H locs → lv_has ls 5 [(0, .ref (ad 0)), (2, .int x2), (3, .int x3), (4, .int x4)] → wX12_pullOf_27 post x2 n x3 x4 σ → W p l e rmX12_pullOf s m args below meth c H locs 0 0 Q (F0 m 27 ls []) := by
    intro   x2 n
    induction n with
    | zero => intro x3 x4 σ H locs ls hW hl h; exact (h : False).elim
    | succ n ih =>
      intro x3 x4 σ H locs ls hW hl h
      have hk27 : ∀ (x3 : Int32) (x4 : Int32) (σ : St) (H : Heap) (locs : List Loc) (ls : Array Slot), xW D KA layR stR ad ids (xA ad ids s.heap.size) s.heap σ H locs → lv_has ls 5 [(0, .ref (ad 0)), (2, .int x2), (3, .int x3), (4, .int x4)] → (wX12_pullOf_27 post x2 n) x3 x4 σ → W p l e rmX12_pullOf s m args below meth c H locs 0 0 Q (F0 m 27 ls []) := fun x3 x4 σ H locs ls hW hl h => ih x3 x4 σ H locs ls hW hl h
      rw [wX12_pullOf_27_s] at h
      try dsimp only at h
      generalize wX12_pullOf_27 post x2 n = k27 at h hk27
      refine lv_iload hx hb dX12_pullOf_27 (lv_at hl 3 rfl) ?_
      refine lv_aload_n hx hb dX12_pullOf_29 rfl (lv_at hl 0 rfl) ?_
      refine xgX12_18 hx hb hts hown hK hW 0 hcX12_pullOf_X12 (hI 0 (by decide)) lR_0 (hts _ hwX12_pullOf_0) dX12_pullOf_30 ?_
      refine lv_icmp_ge (tgt := 70) hx hb dX12_pullOf_33 (by decide) (fun c3 => ?_) (fun c3 => ?_)
      · have h := h.1 c3
        refine lv_iload_n hx hb dX12_pullOf_70 rfl (lv_at hl 2 rfl) ?_
        exact kr _ _ _ _ _ _ hW h dX12_pullOf_71
      · have h := h.2 c3
        refine lv_iload_n hx hb dX12_pullOf_36 rfl (lv_at hl 2 rfl) ?_
        refine lv_iload_n hx hb dX12_pullOf_37 rfl (lv_at hl 1 rfl) ?_
        refine lv_aload_n hx hb dX12_pullOf_38 rfl (lv_at hl 0 rfl) ?_
        refine xgX12_12r hx hb hts hown hK hW 0 hcX12_pullOf_X12 (hI 0 (by decide)) lR_0 (hts _ hwX12_pullOf_1) (sR_0_12 _) dX12_pullOf_39 ?_
        refine lv_iload hx hb dX12_pullOf_42 (lv_at hl 3 rfl) ?_
        obtain ⟨hi4, h⟩ := h
        refine x_iald hx hb hK hW 6 (hI 6 (by decide)) lR_6 hi4 dX12_pullOf_44 ?_
        refine lv_ishr hx hb dX12_pullOf_45 ?_
        refine lv_iconst (v := 1) hx hb dX12_pullOf_46 (by decide) ?_
        refine lv_iand hx hb dX12_pullOf_47 ?_
        refine lv_iconst (v := 1) hx hb dX12_pullOf_48 (by decide) ?_
        refine lv_icmp_ne (tgt := 61) hx hb dX12_pullOf_49 (by decide) (fun c5 => ?_) (fun c5 => ?_)
        · have h := h.1 c5
          refine lv_iconst (v := 0) hx hb dX12_pullOf_61 (by decide) ?_
          exact blk62 x2 k27 hk27 x4 x3 (0 : Int32) _ _ _ _ hW (lv_sub hl [0, 1, 3] rfl) h
        · have h := h.2 c5
          refine lv_aload_n hx hb dX12_pullOf_52 rfl (lv_at hl 0 rfl) ?_
          refine lv_iload hx hb dX12_pullOf_53 (lv_at hl 3 rfl) ?_
          refine x_calli (va_runV (As := [.int x4]) (rest := [.int x3]) ⟨hx, hb, hml, hown, hts⟩ (J_X12_loaded l hI h) (cwV 1 hts gX12_pullOf_X12_loaded rfl rfl rfl hdV_X12_loaded ⟨Nat.le_of_ble_eq_true rfl, Nat.le_of_ble_eq_true rfl⟩) (x_preV (ci := 12) hK hZ hA hW (hI 0 (by decide)) lR_0 rfl) rfl rfl hl.1 rfl (lv_room (Nat.le_of_ble_eq_true rfl)) dX12_pullOf_55 ⟨Nat.zero_le _, Nat.zero_le _⟩) hW hA (fun r7 σ6 H locs h hW => ?_)
          try dsimp only at h
          refine lv_goto (tgt := 62) hx hb dX12_pullOf_58 (by decide) ?_
          exact blk62 x2 k27 hk27 x4 x3 r7 _ _ _ _ hW (lv_sub hl [0, 1, 3] rfl) h
  have main : ∀ (H : Heap) (locs : List Loc) (ls : Array Slot), xW D KA layR stR ad ids (xA ad ids s.heap.size) s.heap σ H locs → lv_has ls 5 [(0, .ref (ad 0)), (1, .int a1)] → W p l e rmX12_pullOf s m args below meth c H locs 0 0 Q (F0 m 0 ls []) := by
    intro H locs ls hW hl
    unfold wX12_pullOf at h
    refine lv_aload_n hx hb dX12_pullOf_0 rfl (lv_at hl 0 rfl) ?_
    refine xgX12_27r hx hb hts hown hK hW 0 hcX12_pullOf_X12 (hI 0 (by decide)) lR_0 (hts _ hwX12_pullOf_2) (sR_0_27 _) dX12_pullOf_1 ?_
    refine lv_iload_n hx hb dX12_pullOf_4 rfl (lv_at hl 1 rfl) ?_
    obtain ⟨hi1001, h⟩ := h
    refine x_iald hx hb hK hW 19 (hI 19 (by decide)) lR_19 hi1001 dX12_pullOf_5 ?_
    refine lv_if_ne (tgt := 11) hx hb dX12_pullOf_6 (by decide) (fun c1002 => ?_) (fun c1002 => ?_)
    · have h := h.1 c1002
      refine lv_aload_n hx hb dX12_pullOf_11 rfl (lv_at hl 0 rfl) ?_
      refine lv_aload_n hx hb dX12_pullOf_12 rfl (lv_at hl 0 rfl) ?_
      refine xgX12_23r hx hb hts hown hK hW 0 hcX12_pullOf_X12 (hI 0 (by decide)) lR_0 (hts _ hwX12_pullOf_3) (sR_0_23 _) dX12_pullOf_13 ?_
      refine lv_iload_n hx hb dX12_pullOf_16 rfl (lv_at hl 1 rfl) ?_
      refine x_iald hx hb hK hW 15 (hI 15 (by decide)) lR_15 hi1001 dX12_pullOf_17 ?_
      refine x_calli (va_runV (As := [.int (gI σ 15 a1.toNatClampNeg)]) (rest := []) ⟨hx, hb, hml, hown, hts⟩ (J_X12_from l hI h) (cwV 1 hts gX12_pullOf_X12_from rfl rfl rfl hdV_X12_from ⟨Nat.le_of_ble_eq_true rfl, Nat.le_of_ble_eq_true rfl⟩) (x_preV (ci := 12) hK hZ hA hW (hI 0 (by decide)) lR_0 rfl) rfl rfl hl.1 rfl (lv_room (Nat.le_of_ble_eq_true rfl)) dX12_pullOf_18 ⟨Nat.zero_le _, Nat.zero_le _⟩) hW hA (fun r1005 σ1004 H locs h hW => ?_)
      try dsimp only at h
      refine lv_istore_n (lv' := [(2, .int r1005), (0, .ref (ad 0)), (1, .int a1)]) hx hb dX12_pullOf_21 rfl hl (by decide) rfl (fun ls hl => ?_)
      refine lv_iconst (v := 0) hx hb dX12_pullOf_22 (by decide) ?_
      refine lv_istore_n (lv' := [(3, .int (0 : Int32)), (2, .int r1005), (0, .ref (ad 0)), (1, .int a1)]) hx hb dX12_pullOf_23 rfl hl (by decide) rfl (fun ls hl => ?_)
      refine lv_iconst (v := 0) hx hb dX12_pullOf_24 (by decide) ?_
      refine lv_istore (lv' := [(4, .int (0 : Int32)), (3, .int (0 : Int32)), (2, .int r1005), (0, .ref (ad 0)), (1, .int a1)]) hx hb dX12_pullOf_25 hl (by decide) rfl (fun ls hl => ?_)
      obtain ⟨n, h⟩ := h
      exact blk27   r1005 n (0 : Int32) (0 : Int32) _ _ _ _ hW (lv_sub hl [3, 2, 1, 0] rfl) h
    · have h := h.2 c1002
      refine lv_iconst (v := 0) hx hb dX12_pullOf_9 (by decide) ?_
      exact kr _ _ _ _ _ _ hW h dX12_pullOf_10
  exact main _ _ _ hW hl
theorem hwX12_wrapOf_0 : (.fieldLink RX12 50 "FortyBeltsModel" "kind" "[I" : Cond) ∈ wsX12_wrapOf := (List.mem_cons_of_mem _ (List.mem_append_left _ (List.mem_of_getElem? (i := 0) rfl)))
theorem hcX12_wrapOf_X12 : ∀ w ∈ wsX120, w ∈ wsX12_wrapOf := fun _ h => (List.mem_cons_of_mem _ (List.mem_append_right _ h))
set_option maxHeartbeats 4000000 in
set_option maxRecDepth 100000 in
theorem J_X12_wrapOf {D : va_G} {KA : Nat → ClassId} {zs : ZS} {ad : Nat → Nat} {ids : List Nat} {sz : Nat} (l : Launch) (hI : ∀ c, c < 35 → c ∈ ids) {a1 : Int32}  {σ : St} {post : Int32 → St → Prop} (h : wX12_wrapOf  a1 σ post) : Met l yX12_wrapOf wsX12_wrapOf rmX12_wrapOf (va_Pc [.ref (ad 0), .int a1] (xIn D KA zs layR stR ad ids sz σ)) (va_Qi post (xOut D KA layR stR ad ids) (xA ad ids sz)) 0 0 (xA ad ids sz) := by
  refine Met.ofW (cc := cX12_wrapOf) (maxL := 4) (ret := (some .int)) (by decide) rfl ?_
  intro p e s m args below meth c s₁ B hml hv
  obtain ⟨hav, hsz, hK, hZ, hP, hD⟩ := hv
  have hx := B.exec
  have hb := B.bytes
  have hr := B.returns
  have hts := atoms_spec (ws := wsX12_wrapOf) B.pre
  have hown : s.vm.findClass RX12 = some m.cls := findClass_of_methodNamed B.named
  have hlocks := B.notSynchronized
  subst hsz
  have hA : ∀ q : Nat, s.heap.size ≤ q → xA ad ids s.heap.size q := fun q h => Or.inr h
  have hW : xW D KA layR stR ad ids (xA ad ids s.heap.size) s.heap σ s.heap [] := ⟨hP, xA_D (D := D) hD, va_S.rf⟩
  have kr : ∀ (v : Int32) (σ : St) (H : Heap) (locs : List Loc) (ls : Array Slot) (pc : Nat), xW D KA layR stR ad ids (xA ad ids s.heap.size) s.heap σ H locs → post v σ → decode cX12_wrapOf pc = .ok (.ireturn, 1) → W p l e rmX12_wrapOf s m args below meth c H locs 0 0 (MQ below (va_Qi post (xOut D KA layR stR ad ids) (xA ad ids s.heap.size)) args s 0 0 (xA ad ids s.heap.size)) (F0 m pc ls [.int v]) := fun v σ H locs ls pc hW h hd => x_iret hx hb hr hlocks hW h hd
  have hl := lv_entry ([.ref (ad 0), .int a1]) (n := 4) (Nat.le_of_ble_eq_true rfl)
  rw [show entryFrame m args 4 = entryFrame m ([.ref (ad 0), .int a1] : List Value).toArray 4 from by rw [hav]]
  rw [lg_entry_eq]
  generalize (lg_sl ([.ref (ad 0), .int a1]) ++ List.replicate (4 - (lg_sl ([.ref (ad 0), .int a1])).length) Slot.unset).toArray = ls at hl ⊢
  have hl : lv_has ls 4 [(0, .ref (ad 0)), (1, .int a1)] := hl
  show W p l e rmX12_wrapOf s m args below meth c s.heap [] 0 0 _ _
  generalize MQ below (va_Qi post (xOut D KA layR stR ad ids) (xA ad ids s.heap.size)) args s 0 0 (xA ad ids s.heap.size) = Q at kr ⊢
  have blk102 : ∀ (x3 : Int32) (σ : St) (H : Heap) (locs : List Loc) (ls : Array Slot), xW D KA layR stR ad ids (xA ad ids s.heap.size) s.heap σ H locs → lv_has ls 4 [(3, .int x3)] → wX12_wrapOf_102 post x3 σ → W p l e rmX12_wrapOf s m args below meth c H locs 0 0 Q (F0 m 102 ls []) := by
    intro   x3 σ H locs ls hW hl h
    unfold wX12_wrapOf_102 at h
    refine lv_iload_n hx hb dX12_wrapOf_102 rfl (lv_at hl 0 rfl) ?_
    exact kr _ _ _ _ _ _ hW h dX12_wrapOf_103
  have blk38 : ∀ (x1 : Int32) (s0 : Int32) (σ : St) (H : Heap) (locs : List Loc) (ls : Array Slot), xW D KA layR stR ad ids (xA ad ids s.heap.size) s.heap σ H locs → lv_has ls 4 [(0, .ref (ad 0)), (1, .int x1)] → wX12_wrapOf_38 post x1 s0 σ → W p l e rmX12_wrapOf s m args below meth c H locs 0 0 Q (F0 m 38 ls [.int s0]) := by
    intro   x1 s0 σ H locs ls hW hl h
    unfold wX12_wrapOf_38 at h
    refine lv_istore_n (lv' := [(3, .int s0), (0, .ref (ad 0)), (1, .int x1)]) hx hb dX12_wrapOf_38 rfl hl (by decide) rfl (fun ls hl => ?_)
    refine lv_aload_n hx hb dX12_wrapOf_39 rfl (lv_at hl 1 rfl) ?_
    refine xgX12_21r hx hb hts hown hK hW 0 hcX12_wrapOf_X12 (hI 0 (by decide)) lR_0 (hts _ hwX12_wrapOf_0) (sR_0_21 _) dX12_wrapOf_40 ?_
    refine lv_iload_n hx hb dX12_wrapOf_43 rfl (lv_at hl 2 rfl) ?_
    obtain ⟨hi1, h⟩ := h
    refine x_iald hx hb hK hW 13 (hI 13 (by decide)) lR_13 hi1 dX12_wrapOf_44 ?_
    refine lv_topi (fun v2 hv2 => ?_)
    have h := h v2 hv2
    obtain ⟨hcase, h⟩ := h
    by_cases hc45_0 : v2 = (1 : Int32)
    · have h := hcase hc45_0
      clear hcase
      refine lv_tableIn (tgt := 80) hx hb dX12_wrapOf_45 (by rw [hc45_0] <;> decide) (by rw [hc45_0] <;> decide) (by rw [hc45_0]; rfl) (by decide) ?_
      refine lv_iload_n hx hb dX12_wrapOf_80 rfl (lv_at hl 0 rfl) ?_
      refine lv_bipush (v := 20) hx hb dX12_wrapOf_81 (by decide) ?_
      refine lv_iadd hx hb dX12_wrapOf_83 ?_
      exact kr _ _ _ _ _ _ hW h dX12_wrapOf_84
    clear hcase
    obtain ⟨hcase, h⟩ := h
    by_cases hc45_1 : v2 = (2 : Int32)
    · have h := hcase hc45_1
      clear hcase
      refine lv_tableIn (tgt := 85) hx hb dX12_wrapOf_45 (by rw [hc45_1] <;> decide) (by rw [hc45_1] <;> decide) (by rw [hc45_1]; rfl) (by decide) ?_
      refine lv_iload_n hx hb dX12_wrapOf_85 rfl (lv_at hl 0 rfl) ?_
      refine lv_bipush (v := 15) hx hb dX12_wrapOf_86 (by decide) ?_
      refine lv_iadd hx hb dX12_wrapOf_88 ?_
      exact kr _ _ _ _ _ _ hW h dX12_wrapOf_89
    clear hcase
    obtain ⟨hcase, h⟩ := h
    by_cases hc45_2 : v2 = (3 : Int32)
    · have h := hcase hc45_2
      clear hcase
      refine lv_tableIn (tgt := 102) hx hb dX12_wrapOf_45 (by rw [hc45_2] <;> decide) (by rw [hc45_2] <;> decide) (by rw [hc45_2]; rfl) (by decide) ?_
      exact blk102   s0 _ _ _ _ hW (lv_sub hl [0] rfl) h
    clear hcase
    obtain ⟨hcase, h⟩ := h
    by_cases hc45_3 : v2 = (4 : Int32)
    · have h := hcase hc45_3
      clear hcase
      refine lv_tableIn (tgt := 90) hx hb dX12_wrapOf_45 (by rw [hc45_3] <;> decide) (by rw [hc45_3] <;> decide) (by rw [hc45_3]; rfl) (by decide) ?_
      refine lv_iload_n hx hb dX12_wrapOf_90 rfl (lv_at hl 0 rfl) ?_
      refine lv_bipush (v := 10) hx hb dX12_wrapOf_91 (by decide) ?_
      refine lv_iadd hx hb dX12_wrapOf_93 ?_
      exact kr _ _ _ _ _ _ hW h dX12_wrapOf_94
    clear hcase
    obtain ⟨hcase, h⟩ := h
    by_cases hc45_4 : v2 = (5 : Int32)
    · have h := hcase hc45_4
      clear hcase
      refine lv_tableIn (tgt := 95) hx hb dX12_wrapOf_45 (by rw [hc45_4] <;> decide) (by rw [hc45_4] <;> decide) (by rw [hc45_4]; rfl) (by decide) ?_
      refine lv_iload_n hx hb dX12_wrapOf_95 rfl (lv_at hl 0 rfl) ?_
      refine lv_bipush (v := 20) hx hb dX12_wrapOf_96 (by decide) ?_
      refine lv_iadd hx hb dX12_wrapOf_98 ?_
      refine lv_iconst (v := 2) hx hb dX12_wrapOf_99 (by decide) ?_
      refine lv_idiv hx hb dX12_wrapOf_100 (by decide) ?_
      exact kr _ _ _ _ _ _ hW h dX12_wrapOf_101
    clear hcase
    have h := h ⟨hc45_0, hc45_1, hc45_2, hc45_3, hc45_4⟩
    refine lv_tableOut (tgt := 102) hx hb dX12_wrapOf_45 (tsw_out v2 (1) (5) (fun k h1 h2 => ?_)) (by decide) ?_
    · rcases (show k = 1 ∨ k = 2 ∨ k = 3 ∨ k = 4 ∨ k = 5 by omega) with rfl | rfl | rfl | rfl | rfl
      · exact hc45_0
      · exact hc45_1
      · exact hc45_2
      · exact hc45_3
      · exact hc45_4
    exact blk102   s0 _ _ _ _ hW (lv_sub hl [0] rfl) h
  have blk24 : ∀ (x1 : Int32) (s0 : Int32) (s1 : Int32) (σ : St) (H : Heap) (locs : List Loc) (ls : Array Slot), xW D KA layR stR ad ids (xA ad ids s.heap.size) s.heap σ H locs → lv_has ls 4 [(0, .ref (ad 0)), (1, .int x1)] → wX12_wrapOf_24 post x1 s0 s1 σ → W p l e rmX12_wrapOf s m args below meth c H locs 0 0 Q (F0 m 24 ls [.int s1, .int s0]) := by
    intro   x1 s0 s1 σ H locs ls hW hl h
    unfold wX12_wrapOf_24 at h
    refine lv_isub hx hb dX12_wrapOf_24 ?_
    refine lv_topi (fun v3 hv3 => ?_)
    have h := h v3 hv3
    refine lv_istore_n (lv' := [(3, .int v3), (0, .ref (ad 0)), (1, .int x1)]) hx hb dX12_wrapOf_25 rfl hl (by decide) rfl (fun ls hl => ?_)
    refine lv_iload_n hx hb dX12_wrapOf_26 rfl (lv_at hl 0 rfl) ?_
    refine lv_bipush (v := 10) hx hb dX12_wrapOf_27 (by decide) ?_
    refine lv_icmp_ge (tgt := 37) hx hb dX12_wrapOf_29 (by decide) (fun c4 => ?_) (fun c4 => ?_)
    · have h := h.1 c4
      refine lv_iload_n hx hb dX12_wrapOf_37 rfl (lv_at hl 0 rfl) ?_
      exact blk38   x1 v3 _ _ _ _ hW (lv_sub hl [1, 2] rfl) h
    · have h := h.2 c4
      refine lv_bipush (v := 10) hx hb dX12_wrapOf_32 (by decide) ?_
      refine lv_goto (tgt := 38) hx hb dX12_wrapOf_34 (by decide) ?_
      exact blk38   x1 (10 : Int32) _ _ _ _ hW (lv_sub hl [1, 2] rfl) h
  have main : ∀ (H : Heap) (locs : List Loc) (ls : Array Slot), xW D KA layR stR ad ids (xA ad ids s.heap.size) s.heap σ H locs → lv_has ls 4 [(0, .ref (ad 0)), (1, .int a1)] → W p l e rmX12_wrapOf s m args below meth c H locs 0 0 Q (F0 m 0 ls []) := by
    intro H locs ls hW hl
    unfold wX12_wrapOf at h
    refine lv_aload_n hx hb dX12_wrapOf_0 rfl (lv_at hl 0 rfl) ?_
    refine lv_iload_n hx hb dX12_wrapOf_1 rfl (lv_at hl 1 rfl) ?_
    refine x_calli (va_runV (As := [.int a1]) (rest := []) ⟨hx, hb, hml, hown, hts⟩ (J_X12_sizeB l hI h) (cwV 1 hts gX12_wrapOf_X12_sizeB rfl rfl rfl hdV_X12_sizeB ⟨Nat.le_of_ble_eq_true rfl, Nat.le_of_ble_eq_true rfl⟩) (x_preV (ci := 12) hK hZ hA hW (hI 0 (by decide)) lR_0 rfl) rfl rfl hl.1 rfl (lv_room (Nat.le_of_ble_eq_true rfl)) dX12_wrapOf_2 ⟨Nat.zero_le _, Nat.zero_le _⟩) hW hA (fun r1002 σ1001 H locs h hW => ?_)
    try dsimp only at h
    refine lv_aload_n hx hb dX12_wrapOf_5 rfl (lv_at hl 0 rfl) ?_
    refine lv_iload_n hx hb dX12_wrapOf_6 rfl (lv_at hl 1 rfl) ?_
    refine x_calli (va_runV (As := [.int a1]) (rest := [.int r1002]) ⟨hx, hb, hml, hown, hts⟩ (J_X12_sizeA l hI h) (cwV 1 hts gX12_wrapOf_X12_sizeA rfl rfl rfl hdV_X12_sizeA ⟨Nat.le_of_ble_eq_true rfl, Nat.le_of_ble_eq_true rfl⟩) (x_preV (ci := 12) hK hZ hA hW (hI 0 (by decide)) lR_0 rfl) rfl rfl hl.1 rfl (lv_room (Nat.le_of_ble_eq_true rfl)) dX12_wrapOf_7 ⟨Nat.zero_le _, Nat.zero_le _⟩) hW hA (fun r1004 σ1003 H locs h hW => ?_)
    try dsimp only at h
    refine lv_isub hx hb dX12_wrapOf_10 ?_
    refine lv_topi (fun v1005 hv1005 => ?_)
    have h := h v1005 hv1005
    refine lv_istore_n (lv' := [(2, .int v1005), (0, .ref (ad 0)), (1, .int a1)]) hx hb dX12_wrapOf_11 rfl hl (by decide) rfl (fun ls hl => ?_)
    refine lv_bipush (v := 50) hx hb dX12_wrapOf_12 (by decide) ?_
    refine lv_iload_n hx hb dX12_wrapOf_14 rfl (lv_at hl 0 rfl) ?_
    refine lv_if_ge (tgt := 23) hx hb dX12_wrapOf_15 (by decide) (fun c1006 => ?_) (fun c1006 => ?_)
    · have h := h.1 c1006
      refine lv_iload_n hx hb dX12_wrapOf_23 rfl (lv_at hl 0 rfl) ?_
      exact blk24   a1 (50 : Int32) v1005 _ _ _ _ hW (lv_sub hl [1, 2] rfl) h
    · have h := h.2 c1006
      refine lv_iload_n hx hb dX12_wrapOf_18 rfl (lv_at hl 0 rfl) ?_
      refine lv_ineg hx hb dX12_wrapOf_19 ?_
      refine lv_goto (tgt := 24) hx hb dX12_wrapOf_20 (by decide) ?_
      exact blk24   a1 (50 : Int32) (-v1005) _ _ _ _ hW (lv_sub hl [1, 2] rfl) h
  exact main _ _ _ hW hl
theorem hwX12_wearOf_0 : (.fieldLink RX12 160 "FortyBeltsModel" "machines" "I" : Cond) ∈ wsX12_wearOf := (List.mem_cons_of_mem _ (List.mem_append_left _ (List.mem_append_left _ (List.mem_of_getElem? (i := 2) rfl))))
theorem hwX12_wearOf_1 : (.fieldLink RX12 236 "FortyBeltsModel" "rule" "I" : Cond) ∈ wsX12_wearOf := (List.mem_cons_of_mem _ (List.mem_append_left _ (List.mem_append_left _ (List.mem_of_getElem? (i := 6) rfl))))
theorem hwX12_wearOf_2 : (.fieldLink RX12 50 "FortyBeltsModel" "kind" "[I" : Cond) ∈ wsX12_wearOf := (List.mem_cons_of_mem _ (List.mem_append_left _ (List.mem_append_left _ (List.mem_of_getElem? (i := 7) rfl))))
theorem hwX12_wearOf_3 : (.fieldLink RX12 53 "FortyBeltsModel" "driver" "[I" : Cond) ∈ wsX12_wearOf := (List.mem_cons_of_mem _ (List.mem_append_left _ (List.mem_append_left _ (List.mem_of_getElem? (i := 8) rfl))))
theorem hwX12_wearOf_4 : (.fieldLink RX12 44 "FortyBeltsModel" "isRun" "[I" : Cond) ∈ wsX12_wearOf := (List.mem_cons_of_mem _ (List.mem_append_left _ (List.mem_append_left _ (List.mem_of_getElem? (i := 3) rfl))))
theorem hwX12_wearOf_5 : (.fieldLink RX12 29 "FortyBeltsModel" "shaftOf" "[I" : Cond) ∈ wsX12_wearOf := (List.mem_cons_of_mem _ (List.mem_append_left _ (List.mem_append_left _ (List.mem_of_getElem? (i := 4) rfl))))
theorem hwX12_wearOf_6 : (.fieldLink RX12 41 "FortyBeltsModel" "hours" "[I" : Cond) ∈ wsX12_wearOf := (List.mem_cons_of_mem _ (List.mem_append_left _ (List.mem_append_left _ (List.mem_of_getElem? (i := 5) rfl))))
theorem hwX12_wearOf_7 : (.fieldLink RX12 68 "FortyBeltsModel" "isOn" "[I" : Cond) ∈ wsX12_wearOf := (List.mem_cons_of_mem _ (List.mem_append_left _ (List.mem_append_left _ (List.mem_of_getElem? (i := 0) rfl))))
theorem hwX12_wearOf_8 : (.fieldLink RX12 56 "FortyBeltsModel" "driven" "[I" : Cond) ∈ wsX12_wearOf := (List.mem_cons_of_mem _ (List.mem_append_left _ (List.mem_append_left _ (List.mem_of_getElem? (i := 1) rfl))))
theorem hcX12_wearOf_X12 : ∀ w ∈ wsX120, w ∈ wsX12_wearOf := fun _ h => (List.mem_cons_of_mem _ (List.mem_append_right _ h))
set_option maxHeartbeats 4000000 in
set_option maxRecDepth 100000 in
theorem J_X12_wearOf {D : va_G} {KA : Nat → ClassId} {zs : ZS} {ad : Nat → Nat} {ids : List Nat} {sz : Nat} (l : Launch) (hI : ∀ c, c < 35 → c ∈ ids) {a1 : Int32}  {σ : St} {post : Int32 → St → Prop} (h : wX12_wearOf  a1 σ post) : Met l yX12_wearOf wsX12_wearOf rmX12_wearOf (va_Pc [.ref (ad 0), .int a1] (xIn D KA zs layR stR ad ids sz σ)) (va_Qi post (xOut D KA layR stR ad ids) (xA ad ids sz)) 0 0 (xA ad ids sz) := by
  refine Met.ofW (cc := cX12_wearOf) (maxL := 5) (ret := (some .int)) (by decide) rfl ?_
  intro p e s m args below meth c s₁ B hml hv
  obtain ⟨hav, hsz, hK, hZ, hP, hD⟩ := hv
  have hx := B.exec
  have hb := B.bytes
  have hr := B.returns
  have hts := atoms_spec (ws := wsX12_wearOf) B.pre
  have hown : s.vm.findClass RX12 = some m.cls := findClass_of_methodNamed B.named
  have hlocks := B.notSynchronized
  subst hsz
  have hA : ∀ q : Nat, s.heap.size ≤ q → xA ad ids s.heap.size q := fun q h => Or.inr h
  have hW : xW D KA layR stR ad ids (xA ad ids s.heap.size) s.heap σ s.heap [] := ⟨hP, xA_D (D := D) hD, va_S.rf⟩
  have kr : ∀ (v : Int32) (σ : St) (H : Heap) (locs : List Loc) (ls : Array Slot) (pc : Nat), xW D KA layR stR ad ids (xA ad ids s.heap.size) s.heap σ H locs → post v σ → decode cX12_wearOf pc = .ok (.ireturn, 1) → W p l e rmX12_wearOf s m args below meth c H locs 0 0 (MQ below (va_Qi post (xOut D KA layR stR ad ids) (xA ad ids s.heap.size)) args s 0 0 (xA ad ids s.heap.size)) (F0 m pc ls [.int v]) := fun v σ H locs ls pc hW h hd => x_iret hx hb hr hlocks hW h hd
  have hl := lv_entry ([.ref (ad 0), .int a1]) (n := 5) (Nat.le_of_ble_eq_true rfl)
  rw [show entryFrame m args 5 = entryFrame m ([.ref (ad 0), .int a1] : List Value).toArray 5 from by rw [hav]]
  rw [lg_entry_eq]
  generalize (lg_sl ([.ref (ad 0), .int a1]) ++ List.replicate (5 - (lg_sl ([.ref (ad 0), .int a1])).length) Slot.unset).toArray = ls at hl ⊢
  have hl : lv_has ls 5 [(0, .ref (ad 0)), (1, .int a1)] := hl
  show W p l e rmX12_wearOf s m args below meth c s.heap [] 0 0 _ _
  generalize MQ below (va_Qi post (xOut D KA layR stR ad ids) (xA ad ids s.heap.size)) args s 0 0 (xA ad ids s.heap.size) = Q at kr ⊢
  have blk87 : ∀ (x1 : Int32) (x3 : Int32) (k30 : Int32 → Int32 → St → Prop) (hk30 : ∀ (x2 : Int32) (x4 : Int32) (σ : St) (H : Heap) (locs : List Loc) (ls : Array Slot), xW D KA layR stR ad ids (xA ad ids s.heap.size) s.heap σ H locs → lv_has ls 5 [(0, .ref (ad 0)), (1, .int x1), (2, .int x2), (3, .int x3), (4, .int x4)] → k30 x2 x4 σ → W p l e rmX12_wearOf s m args below meth c H locs 0 0 Q (F0 m 30 ls [])) (x4 : Int32) (s0 : Int32) (σ : St) (H : Heap) (locs : List Loc) (ls : Array Slot), xW D KA layR stR ad ids (xA ad ids s.heap.size) s.heap σ H locs → lv_has ls 5 [(0, .ref (ad 0)), (1, .int x1), (3, .int x3), (4, .int x4)] → wX12_wearOf_87 k30 post x1 x3 x4 s0 σ → W p l e rmX12_wearOf s m args below meth c H locs 0 0 Q (F0 m 87 ls [.int s0]) := by
    intro x1 x3 k30 hk30 x4 s0 σ H locs ls hW hl h
    unfold wX12_wearOf_87 at h
    refine lv_istore_n (lv' := [(2, .int s0), (0, .ref (ad 0)), (1, .int x1), (3, .int x3), (4, .int x4)]) hx hb dX12_wearOf_87 rfl hl (by decide) rfl (fun ls hl => ?_)
    obtain ⟨v1, hv1⟩ : ∃ y : Int32, y = x4 + (1 : Int32) := ⟨_, rfl⟩
    have h := h v1 hv1
    refine lv_iinc (v := v1) (lv' := [(4, .int v1), (2, .int s0), (0, .ref (ad 0)), (1, .int x1), (3, .int x3)]) hx hb dX12_wearOf_88 hl (k := 4) rfl (by rw [hv1]; rfl) (by decide) rfl (fun ls hl => ?_)
    refine lv_goto (tgt := 30) hx hb dX12_wearOf_91 (by decide) ?_
    exact hk30 s0 v1 _ _ _ _ hW (lv_sub hl [2, 3, 1, 4, 0] rfl) h
  have blk86 : ∀ (x1 : Int32) (x3 : Int32) (k30 : Int32 → Int32 → St → Prop) (hk30 : ∀ (x2 : Int32) (x4 : Int32) (σ : St) (H : Heap) (locs : List Loc) (ls : Array Slot), xW D KA layR stR ad ids (xA ad ids s.heap.size) s.heap σ H locs → lv_has ls 5 [(0, .ref (ad 0)), (1, .int x1), (2, .int x2), (3, .int x3), (4, .int x4)] → k30 x2 x4 σ → W p l e rmX12_wearOf s m args below meth c H locs 0 0 Q (F0 m 30 ls [])) (x2 : Int32) (x4 : Int32) (σ : St) (H : Heap) (locs : List Loc) (ls : Array Slot), xW D KA layR stR ad ids (xA ad ids s.heap.size) s.heap σ H locs → lv_has ls 5 [(0, .ref (ad 0)), (1, .int x1), (2, .int x2), (3, .int x3), (4, .int x4)] → wX12_wearOf_86 k30 post x1 x2 x3 x4 σ → W p l e rmX12_wearOf s m args below meth c H locs 0 0 Q (F0 m 86 ls []) := by
    intro x1 x3 k30 hk30 x2 x4 σ H locs ls hW hl h
    unfold wX12_wearOf_86 at h
    refine lv_iload_n hx hb dX12_wearOf_86 rfl (lv_at hl 2 rfl) ?_
    exact blk87 x1 x3 k30 hk30 x4 x2 _ _ _ _ hW (lv_sub hl [0, 1, 3, 4] rfl) h
  have blk30 : ∀ (x1 : Int32) (x3 : Int32) (n : Nat) (x2 : Int32) (x4 : Int32) (σ : St) (H : Heap) (locs : List Loc) (ls : Array Slot), xW D KA layR stR ad ids (xA ad ids s.heap.size) s.heap σ H locs → lv_has ls 5 [(0, .ref (ad 0)), (1, .int x1), (2, .int x2), (3, .int x3), (4, .int x4)] → wX12_wearOf_30 post x1 x3 n x2 x4 σ → W p l e rmX12_wearOf s m args below meth c H locs 0 0 Q (F0 m 30 ls []) := by
    intro   x1 x3 n
    induction n with
    | zero => intro x2 x4 σ H locs ls hW hl h; exact (h : False).elim
    | succ n ih =>
      intro x2 x4 σ H locs ls hW hl h
      have hk30 : ∀ (x2 : Int32) (x4 : Int32) (σ : St) (H : Heap) (locs : List Loc) (ls : Array Slot), xW D KA layR stR ad ids (xA ad ids s.heap.size) s.heap σ H locs → lv_has ls 5 [(0, .ref (ad 0)), (1, .int x1), (2, .int x2), (3, .int x3), (4, .int x4)] → (wX12_wearOf_30 post x1 x3 n) x2 x4 σ → W p l e rmX12_wearOf s m args below meth c H locs 0 0 Q (F0 m 30 ls []) := fun x2 x4 σ H locs ls hW hl h => ih x2 x4 σ H locs ls hW hl h
      rw [wX12_wearOf_30_s] at h
      try dsimp only at h
      generalize wX12_wearOf_30 post x1 x3 n = k30 at h hk30
      refine lv_iload hx hb dX12_wearOf_30 (lv_at hl 4 rfl) ?_
      refine lv_aload_n hx hb dX12_wearOf_32 rfl (lv_at hl 0 rfl) ?_
      refine xgX12_18 hx hb hts hown hK hW 0 hcX12_wearOf_X12 (hI 0 (by decide)) lR_0 (hts _ hwX12_wearOf_0) dX12_wearOf_33 ?_
      refine lv_icmp_ge (tgt := 94) hx hb dX12_wearOf_36 (by decide) (fun c2 => ?_) (fun c2 => ?_)
      · have h := h.1 c2
        refine lv_aload_n hx hb dX12_wearOf_94 rfl (lv_at hl 0 rfl) ?_
        refine lv_aload_n hx hb dX12_wearOf_95 rfl (lv_at hl 0 rfl) ?_
        refine xgX12_4 hx hb hts hown hK hW 0 hcX12_wearOf_X12 (hI 0 (by decide)) lR_0 (hts _ hwX12_wearOf_1) dX12_wearOf_96 ?_
        refine lv_aload_n hx hb dX12_wearOf_99 rfl (lv_at hl 0 rfl) ?_
        refine xgX12_21r hx hb hts hown hK hW 0 hcX12_wearOf_X12 (hI 0 (by decide)) lR_0 (hts _ hwX12_wearOf_2) (sR_0_21 _) dX12_wearOf_100 ?_
        refine lv_iload_n hx hb dX12_wearOf_103 rfl (lv_at hl 1 rfl) ?_
        obtain ⟨hi3, h⟩ := h
        refine x_iald hx hb hK hW 13 (hI 13 (by decide)) lR_13 hi3 dX12_wearOf_104 ?_
        refine lv_aload_n hx hb dX12_wearOf_105 rfl (lv_at hl 0 rfl) ?_
        refine lv_aload_n hx hb dX12_wearOf_106 rfl (lv_at hl 0 rfl) ?_
        refine xgX12_22r hx hb hts hown hK hW 0 hcX12_wearOf_X12 (hI 0 (by decide)) lR_0 (hts _ hwX12_wearOf_3) (sR_0_22 _) dX12_wearOf_107 ?_
        refine lv_iload_n hx hb dX12_wearOf_110 rfl (lv_at hl 1 rfl) ?_
        refine x_iald hx hb hK hW 14 (hI 14 (by decide)) lR_14 hi3 dX12_wearOf_111 ?_
        refine x_calli (va_runV (As := [.int (gI σ 14 x1.toNatClampNeg)]) (rest := [.int (gI σ 13 x1.toNatClampNeg), .int (gI σ 0 4), .ref (ad 0)]) ⟨hx, hb, hml, hown, hts⟩ (J_X12_cutTurns l hI h) (cwV 1 hts gX12_wearOf_X12_cutTurns rfl rfl rfl hdV_X12_cutTurns ⟨Nat.le_of_ble_eq_true rfl, Nat.le_of_ble_eq_true rfl⟩) (x_preV (ci := 12) hK hZ hA hW (hI 0 (by decide)) lR_0 rfl) rfl rfl hl.1 rfl (lv_room (Nat.le_of_ble_eq_true rfl)) dX12_wearOf_112 ⟨Nat.zero_le _, Nat.zero_le _⟩) hW hA (fun r6 σ5 H locs h hW => ?_)
        try dsimp only at h
        refine lv_aload_n hx hb dX12_wearOf_115 rfl (lv_at hl 0 rfl) ?_
        refine lv_iload_n hx hb dX12_wearOf_116 rfl (lv_at hl 1 rfl) ?_
        refine x_calli (va_runV (As := [.int x1]) (rest := [.int r6, .int (gI σ 13 x1.toNatClampNeg), .int (gI σ 0 4), .ref (ad 0)]) ⟨hx, hb, hml, hown, hts⟩ (J_X12_wrapOf l hI h) (cwV 1 hts gX12_wearOf_X12_wrapOf rfl rfl rfl hdV_X12_wrapOf ⟨Nat.le_of_ble_eq_true rfl, Nat.le_of_ble_eq_true rfl⟩) (x_preV (ci := 12) hK hZ hA hW (hI 0 (by decide)) lR_0 rfl) rfl rfl hl.1 rfl (lv_room (Nat.le_of_ble_eq_true rfl)) dX12_wearOf_117 ⟨Nat.zero_le _, Nat.zero_le _⟩) hW hA (fun r8 σ7 H locs h hW => ?_)
        try dsimp only at h
        refine lv_aload_n hx hb dX12_wearOf_120 rfl (lv_at hl 0 rfl) ?_
        refine lv_iload_n hx hb dX12_wearOf_121 rfl (lv_at hl 1 rfl) ?_
        refine x_calli (va_runV (As := [.int x1]) (rest := [.int r8, .int r6, .int (gI σ 13 x1.toNatClampNeg), .int (gI σ 0 4), .ref (ad 0)]) ⟨hx, hb, hml, hown, hts⟩ (J_X12_pullOf l hI h) (cwV 1 hts gX12_wearOf_X12_pullOf rfl rfl rfl hdV_X12_pullOf ⟨Nat.le_of_ble_eq_true rfl, Nat.le_of_ble_eq_true rfl⟩) (x_preV (ci := 12) hK hZ hA hW (hI 0 (by decide)) lR_0 rfl) rfl rfl hl.1 rfl (lv_room (Nat.le_of_ble_eq_true rfl)) dX12_wearOf_122 ⟨Nat.zero_le _, Nat.zero_le _⟩) hW hA (fun r10 σ9 H locs h hW => ?_)
        try dsimp only at h
        refine lv_aload_n hx hb dX12_wearOf_125 rfl (lv_at hl 0 rfl) ?_
        refine lv_iload_n hx hb dX12_wearOf_126 rfl (lv_at hl 1 rfl) ?_
        refine x_calli (va_runV (As := [.int x1]) (rest := [.int r10, .int r8, .int r6, .int (gI σ 13 x1.toNatClampNeg), .int (gI σ 0 4), .ref (ad 0)]) ⟨hx, hb, hml, hown, hts⟩ (J_X12_sizeA l hI h) (cwV 1 hts gX12_wearOf_X12_sizeA rfl rfl rfl hdV_X12_sizeA ⟨Nat.le_of_ble_eq_true rfl, Nat.le_of_ble_eq_true rfl⟩) (x_preV (ci := 12) hK hZ hA hW (hI 0 (by decide)) lR_0 rfl) rfl rfl hl.1 rfl (lv_room (Nat.le_of_ble_eq_true rfl)) dX12_wearOf_127 ⟨Nat.zero_le _, Nat.zero_le _⟩) hW hA (fun r12 σ11 H locs h hW => ?_)
        try dsimp only at h
        refine lv_aload_n hx hb dX12_wearOf_130 rfl (lv_at hl 0 rfl) ?_
        refine lv_iload_n hx hb dX12_wearOf_131 rfl (lv_at hl 1 rfl) ?_
        refine x_calli (va_runV (As := [.int x1]) (rest := [.int r12, .int r10, .int r8, .int r6, .int (gI σ 13 x1.toNatClampNeg), .int (gI σ 0 4), .ref (ad 0)]) ⟨hx, hb, hml, hown, hts⟩ (J_X12_sizeB l hI h) (cwV 1 hts gX12_wearOf_X12_sizeB rfl rfl rfl hdV_X12_sizeB ⟨Nat.le_of_ble_eq_true rfl, Nat.le_of_ble_eq_true rfl⟩) (x_preV (ci := 12) hK hZ hA hW (hI 0 (by decide)) lR_0 rfl) rfl rfl hl.1 rfl (lv_room (Nat.le_of_ble_eq_true rfl)) dX12_wearOf_132 ⟨Nat.zero_le _, Nat.zero_le _⟩) hW hA (fun r14 σ13 H locs h hW => ?_)
        try dsimp only at h
        refine lv_iadd hx hb dX12_wearOf_135 ?_
        refine lv_iload_n hx hb dX12_wearOf_136 rfl (lv_at hl 2 rfl) ?_
        refine lv_iconst (v := 0) hx hb dX12_wearOf_137 (by decide) ?_
        refine x_calli (va_runV (As := [.int (gI σ 0 4), .int (gI σ 13 x1.toNatClampNeg), .int r6, .int r8, .int r10, .int (r12 + r14), .int x2, .int (0 : Int32)]) (rest := []) ⟨hx, hb, hml, hown, hts⟩ (J_X12_read l hI h) (cwV 8 hts gX12_wearOf_X12_read rfl rfl rfl hdV_X12_read ⟨Nat.le_of_ble_eq_true rfl, Nat.le_of_ble_eq_true rfl⟩) (x_preV (ci := 12) hK hZ hA hW (hI 0 (by decide)) lR_0 rfl) rfl rfl hl.1 rfl (lv_room (Nat.le_of_ble_eq_true rfl)) dX12_wearOf_138 ⟨Nat.zero_le _, Nat.zero_le _⟩) hW hA (fun r16 σ15 H locs h hW => ?_)
        try dsimp only at h
        refine lv_iconst (v := 0) hx hb dX12_wearOf_141 (by decide) ?_
        refine lv_sipush (v := 9999) hx hb dX12_wearOf_142 (by decide) ?_
        refine x_calli (va_runS (As := [.int r16, .int (0 : Int32), .int (9999 : Int32)]) (rest := []) ⟨hx, hb, hml, hown, hts⟩ (J_X12_within l hI h) (va_cwS 3 hts gX12_wearOf_X12_within rfl rfl rfl hdS_X12_within ⟨Nat.le_of_ble_eq_true rfl, Nat.le_of_ble_eq_true rfl⟩) (x_preS hK hZ hA hW) rfl rfl hl.1 rfl (lv_room (Nat.le_of_ble_eq_true rfl)) dX12_wearOf_145 ⟨Nat.zero_le _, Nat.zero_le _⟩) hW hA (fun r18 σ17 H locs h hW => ?_)
        try dsimp only at h
        exact kr _ _ _ _ _ _ hW h dX12_wearOf_148
      · have h := h.2 c2
        refine lv_aload_n hx hb dX12_wearOf_39 rfl (lv_at hl 0 rfl) ?_
        refine xgX12_17r hx hb hts hown hK hW 0 hcX12_wearOf_X12 (hI 0 (by decide)) lR_0 (hts _ hwX12_wearOf_4) (sR_0_17 _) dX12_wearOf_40 ?_
        refine lv_iload hx hb dX12_wearOf_43 (lv_at hl 4 rfl) ?_
        obtain ⟨hi19, h⟩ := h
        refine x_iald hx hb hK hW 11 (hI 11 (by decide)) lR_11 hi19 dX12_wearOf_45 ?_
        refine lv_iconst (v := 1) hx hb dX12_wearOf_46 (by decide) ?_
        refine lv_icmp_ne (tgt := 86) hx hb dX12_wearOf_47 (by decide) (fun c20 => ?_) (fun c20 => ?_)
        · have h := h.1 c20
          exact blk86 x1 x3 k30 hk30 x2 x4 _ _ _ _ hW (lv_sub hl [0, 1, 2, 3, 4] rfl) h
        · have h := h.2 c20
          refine lv_iload_n hx hb dX12_wearOf_50 rfl (lv_at hl 3 rfl) ?_
          refine lv_aload_n hx hb dX12_wearOf_51 rfl (lv_at hl 0 rfl) ?_
          refine xgX12_12r hx hb hts hown hK hW 0 hcX12_wearOf_X12 (hI 0 (by decide)) lR_0 (hts _ hwX12_wearOf_5) (sR_0_12 _) dX12_wearOf_52 ?_
          refine lv_iload hx hb dX12_wearOf_55 (lv_at hl 4 rfl) ?_
          refine x_iald hx hb hK hW 6 (hI 6 (by decide)) lR_6 hi19 dX12_wearOf_57 ?_
          refine lv_ishr hx hb dX12_wearOf_58 ?_
          refine lv_iconst (v := 1) hx hb dX12_wearOf_59 (by decide) ?_
          refine lv_iand hx hb dX12_wearOf_60 ?_
          refine lv_iconst (v := 1) hx hb dX12_wearOf_61 (by decide) ?_
          refine lv_icmp_ne (tgt := 86) hx hb dX12_wearOf_62 (by decide) (fun c22 => ?_) (fun c22 => ?_)
          · have h := h.1 c22
            exact blk86 x1 x3 k30 hk30 x2 x4 _ _ _ _ hW (lv_sub hl [0, 1, 2, 3, 4] rfl) h
          · have h := h.2 c22
            refine lv_aload_n hx hb dX12_wearOf_65 rfl (lv_at hl 0 rfl) ?_
            refine xgX12_16r hx hb hts hown hK hW 0 hcX12_wearOf_X12 (hI 0 (by decide)) lR_0 (hts _ hwX12_wearOf_6) (sR_0_16 _) dX12_wearOf_66 ?_
            refine lv_iload hx hb dX12_wearOf_69 (lv_at hl 4 rfl) ?_
            refine x_iald hx hb hK hW 10 (hI 10 (by decide)) lR_10 hi19 dX12_wearOf_71 ?_
            refine lv_iload_n hx hb dX12_wearOf_72 rfl (lv_at hl 2 rfl) ?_
            refine lv_icmp_le (tgt := 86) hx hb dX12_wearOf_73 (by decide) (fun c24 => ?_) (fun c24 => ?_)
            · have h := h.1 c24
              exact blk86 x1 x3 k30 hk30 x2 x4 _ _ _ _ hW (lv_sub hl [0, 1, 2, 3, 4] rfl) h
            · have h := h.2 c24
              refine lv_aload_n hx hb dX12_wearOf_76 rfl (lv_at hl 0 rfl) ?_
              refine xgX12_16r hx hb hts hown hK hW 0 hcX12_wearOf_X12 (hI 0 (by decide)) lR_0 (hts _ hwX12_wearOf_6) (sR_0_16 _) dX12_wearOf_77 ?_
              refine lv_iload hx hb dX12_wearOf_80 (lv_at hl 4 rfl) ?_
              refine x_iald hx hb hK hW 10 (hI 10 (by decide)) lR_10 hi19 dX12_wearOf_82 ?_
              refine lv_goto (tgt := 87) hx hb dX12_wearOf_83 (by decide) ?_
              exact blk87 x1 x3 k30 hk30 x4 (gI σ 10 x4.toNatClampNeg) _ _ _ _ hW (lv_sub hl [0, 1, 3, 4] rfl) h
  have blk26 : ∀ (x1 : Int32) (x2 : Int32) (s0 : Int32) (σ : St) (H : Heap) (locs : List Loc) (ls : Array Slot), xW D KA layR stR ad ids (xA ad ids s.heap.size) s.heap σ H locs → lv_has ls 5 [(0, .ref (ad 0)), (1, .int x1), (2, .int x2)] → wX12_wearOf_26 post x1 x2 s0 σ → W p l e rmX12_wearOf s m args below meth c H locs 0 0 Q (F0 m 26 ls [.int s0]) := by
    intro   x1 x2 s0 σ H locs ls hW hl h
    unfold wX12_wearOf_26 at h
    refine lv_istore_n (lv' := [(3, .int s0), (0, .ref (ad 0)), (1, .int x1), (2, .int x2)]) hx hb dX12_wearOf_26 rfl hl (by decide) rfl (fun ls hl => ?_)
    refine lv_iconst (v := 0) hx hb dX12_wearOf_27 (by decide) ?_
    refine lv_istore (lv' := [(4, .int (0 : Int32)), (3, .int s0), (0, .ref (ad 0)), (1, .int x1), (2, .int x2)]) hx hb dX12_wearOf_28 hl (by decide) rfl (fun ls hl => ?_)
    obtain ⟨n, h⟩ := h
    exact blk30   x1 s0 n x2 (0 : Int32) _ _ _ _ hW (lv_sub hl [2, 3, 4, 1, 0] rfl) h
  have main : ∀ (H : Heap) (locs : List Loc) (ls : Array Slot), xW D KA layR stR ad ids (xA ad ids s.heap.size) s.heap σ H locs → lv_has ls 5 [(0, .ref (ad 0)), (1, .int a1)] → W p l e rmX12_wearOf s m args below meth c H locs 0 0 Q (F0 m 0 ls []) := by
    intro H locs ls hW hl
    unfold wX12_wearOf at h
    refine lv_iconst (v := 0) hx hb dX12_wearOf_0 (by decide) ?_
    refine lv_istore_n (lv' := [(2, .int (0 : Int32)), (0, .ref (ad 0)), (1, .int a1)]) hx hb dX12_wearOf_1 rfl hl (by decide) rfl (fun ls hl => ?_)
    refine lv_aload_n hx hb dX12_wearOf_2 rfl (lv_at hl 1 rfl) ?_
    refine xgX12_27r hx hb hts hown hK hW 0 hcX12_wearOf_X12 (hI 0 (by decide)) lR_0 (hts _ hwX12_wearOf_7) (sR_0_27 _) dX12_wearOf_3 ?_
    refine lv_iload_n hx hb dX12_wearOf_6 rfl (lv_at hl 2 rfl) ?_
    obtain ⟨hi1001, h⟩ := h
    refine x_iald hx hb hK hW 19 (hI 19 (by decide)) lR_19 hi1001 dX12_wearOf_7 ?_
    refine lv_iconst (v := 1) hx hb dX12_wearOf_8 (by decide) ?_
    refine lv_icmp_ne (tgt := 25) hx hb dX12_wearOf_9 (by decide) (fun c1002 => ?_) (fun c1002 => ?_)
    · have h := h.1 c1002
      refine lv_iconst (v := 0) hx hb dX12_wearOf_25 (by decide) ?_
      exact blk26   a1 (0 : Int32) (0 : Int32) _ _ _ _ hW (lv_sub hl [1, 2, 0] rfl) h
    · have h := h.2 c1002
      refine lv_aload_n hx hb dX12_wearOf_12 rfl (lv_at hl 1 rfl) ?_
      refine lv_aload_n hx hb dX12_wearOf_13 rfl (lv_at hl 1 rfl) ?_
      refine xgX12_23r hx hb hts hown hK hW 0 hcX12_wearOf_X12 (hI 0 (by decide)) lR_0 (hts _ hwX12_wearOf_8) (sR_0_23 _) dX12_wearOf_14 ?_
      refine lv_iload_n hx hb dX12_wearOf_17 rfl (lv_at hl 2 rfl) ?_
      refine x_iald hx hb hK hW 15 (hI 15 (by decide)) lR_15 hi1001 dX12_wearOf_18 ?_
      refine x_calli (va_runV (As := [.int (gI σ 15 a1.toNatClampNeg)]) (rest := []) ⟨hx, hb, hml, hown, hts⟩ (J_X12_from l hI h) (cwV 1 hts gX12_wearOf_X12_from rfl rfl rfl hdV_X12_from ⟨Nat.le_of_ble_eq_true rfl, Nat.le_of_ble_eq_true rfl⟩) (x_preV (ci := 12) hK hZ hA hW (hI 0 (by decide)) lR_0 rfl) rfl rfl hl.1 rfl (lv_room (Nat.le_of_ble_eq_true rfl)) dX12_wearOf_19 ⟨Nat.zero_le _, Nat.zero_le _⟩) hW hA (fun r1005 σ1004 H locs h hW => ?_)
      try dsimp only at h
      refine lv_goto (tgt := 26) hx hb dX12_wearOf_22 (by decide) ?_
      exact blk26   a1 (0 : Int32) r1005 _ _ _ _ hW (lv_sub hl [1, 2, 0] rfl) h
  exact main _ _ _ hW hl
set_option maxHeartbeats 4000000 in
set_option maxRecDepth 100000 in
theorem J_X12_daysOf {D : va_G} {KA : Nat → ClassId} {zs : ZS} {ad : Nat → Nat} {ids : List Nat} {sz : Nat} (l : Launch) (hI : ∀ c, c < 35 → c ∈ ids) {a1 : Int32} {a2 : Int32}  {σ : St} {post : Int32 → St → Prop} (h : wX12_daysOf  a1 a2 σ post) : Met l yX12_daysOf wsX12_daysOf rmX12_daysOf (va_Pc [.ref (ad 0), .int a1, .int a2] (xIn D KA zs layR stR ad ids sz σ)) (va_Qi post (xOut D KA layR stR ad ids) (xA ad ids sz)) 0 0 (xA ad ids sz) := by
  refine Met.ofW (cc := cX12_daysOf) (maxL := 4) (ret := (some .int)) (by decide) rfl ?_
  intro p e s m args below meth c s₁ B hml hv
  obtain ⟨hav, hsz, hK, hZ, hP, hD⟩ := hv
  have hx := B.exec
  have hb := B.bytes
  have hr := B.returns
  have hts := atoms_spec (ws := wsX12_daysOf) B.pre
  have hown : s.vm.findClass RX12 = some m.cls := findClass_of_methodNamed B.named
  have hlocks := B.notSynchronized
  subst hsz
  have hA : ∀ q : Nat, s.heap.size ≤ q → xA ad ids s.heap.size q := fun q h => Or.inr h
  have hW : xW D KA layR stR ad ids (xA ad ids s.heap.size) s.heap σ s.heap [] := ⟨hP, xA_D (D := D) hD, va_S.rf⟩
  have kr : ∀ (v : Int32) (σ : St) (H : Heap) (locs : List Loc) (ls : Array Slot) (pc : Nat), xW D KA layR stR ad ids (xA ad ids s.heap.size) s.heap σ H locs → post v σ → decode cX12_daysOf pc = .ok (.ireturn, 1) → W p l e rmX12_daysOf s m args below meth c H locs 0 0 (MQ below (va_Qi post (xOut D KA layR stR ad ids) (xA ad ids s.heap.size)) args s 0 0 (xA ad ids s.heap.size)) (F0 m pc ls [.int v]) := fun v σ H locs ls pc hW h hd => x_iret hx hb hr hlocks hW h hd
  have hl := lv_entry ([.ref (ad 0), .int a1, .int a2]) (n := 4) (Nat.le_of_ble_eq_true rfl)
  rw [show entryFrame m args 4 = entryFrame m ([.ref (ad 0), .int a1, .int a2] : List Value).toArray 4 from by rw [hav]]
  rw [lg_entry_eq]
  generalize (lg_sl ([.ref (ad 0), .int a1, .int a2]) ++ List.replicate (4 - (lg_sl ([.ref (ad 0), .int a1, .int a2])).length) Slot.unset).toArray = ls at hl ⊢
  have hl : lv_has ls 4 [(0, .ref (ad 0)), (1, .int a1), (2, .int a2)] := hl
  show W p l e rmX12_daysOf s m args below meth c s.heap [] 0 0 _ _
  generalize MQ below (va_Qi post (xOut D KA layR stR ad ids) (xA ad ids s.heap.size)) args s 0 0 (xA ad ids s.heap.size) = Q at kr ⊢
  have blk21 : ∀ (s0 : Int32) (σ : St) (H : Heap) (locs : List Loc) (ls : Array Slot), xW D KA layR stR ad ids (xA ad ids s.heap.size) s.heap σ H locs → lv_has ls 4 [] → wX12_daysOf_21 post s0 σ → W p l e rmX12_daysOf s m args below meth c H locs 0 0 Q (F0 m 21 ls [.int s0]) := by
    intro   s0 σ H locs ls hW hl h
    unfold wX12_daysOf_21 at h
    exact kr _ _ _ _ _ _ hW h dX12_daysOf_21
  have main : ∀ (H : Heap) (locs : List Loc) (ls : Array Slot), xW D KA layR stR ad ids (xA ad ids s.heap.size) s.heap σ H locs → lv_has ls 4 [(0, .ref (ad 0)), (1, .int a1), (2, .int a2)] → W p l e rmX12_daysOf s m args below meth c H locs 0 0 Q (F0 m 0 ls []) := by
    intro H locs ls hW hl
    unfold wX12_daysOf at h
    refine lv_aload_n hx hb dX12_daysOf_0 rfl (lv_at hl 0 rfl) ?_
    refine lv_iload_n hx hb dX12_daysOf_1 rfl (lv_at hl 1 rfl) ?_
    refine x_calli (va_runV (As := [.int a1]) (rest := []) ⟨hx, hb, hml, hown, hts⟩ (J_X12_wearOf l hI h) (cwV 1 hts gX12_daysOf_X12_wearOf rfl rfl rfl hdV_X12_wearOf ⟨Nat.le_of_ble_eq_true rfl, Nat.le_of_ble_eq_true rfl⟩) (x_preV (ci := 12) hK hZ hA hW (hI 0 (by decide)) lR_0 rfl) rfl rfl hl.1 rfl (lv_room (Nat.le_of_ble_eq_true rfl)) dX12_daysOf_2 ⟨Nat.zero_le _, Nat.zero_le _⟩) hW hA (fun r1002 σ1001 H locs h hW => ?_)
    try dsimp only at h
    refine lv_istore_n (lv' := [(3, .int r1002), (0, .ref (ad 0)), (1, .int a1), (2, .int a2)]) hx hb dX12_daysOf_5 rfl hl (by decide) rfl (fun ls hl => ?_)
    refine lv_iload_n hx hb dX12_daysOf_6 rfl (lv_at hl 0 rfl) ?_
    refine lv_if_ne (tgt := 14) hx hb dX12_daysOf_7 (by decide) (fun c1003 => ?_) (fun c1003 => ?_)
    · have h := h.1 c1003
      refine lv_iload_n hx hb dX12_daysOf_14 rfl (lv_at hl 3 rfl) ?_
      refine lv_iload_n hx hb dX12_daysOf_15 rfl (lv_at hl 0 rfl) ?_
      refine lv_iadd hx hb dX12_daysOf_16 ?_
      refine lv_iconst (v := 1) hx hb dX12_daysOf_17 (by decide) ?_
      refine lv_isub hx hb dX12_daysOf_18 ?_
      refine lv_iload_n hx hb dX12_daysOf_19 rfl (lv_at hl 0 rfl) ?_
      obtain ⟨hd1004, h⟩ := h
      refine lv_idiv hx hb dX12_daysOf_20 hd1004 ?_
      exact blk21   (((a2 + r1002) - (1 : Int32)) / r1002) _ _ _ _ hW (lv_sub hl [] rfl) h
    · have h := h.2 c1003
      refine lv_iconst (v := (-1)) hx hb dX12_daysOf_10 (by decide) ?_
      refine lv_goto (tgt := 21) hx hb dX12_daysOf_11 (by decide) ?_
      exact blk21   (-1 : Int32) _ _ _ _ hW (lv_sub hl [] rfl) h
  exact main _ _ _ hW hl
theorem hwX12_drum_0 : (.constantLong RX12 169 (99) : Cond) ∈ wsX12_drum := (List.mem_cons_of_mem _ (List.mem_append_left _ (List.mem_of_getElem? (i := 0) rfl)))
theorem hwX12_drum_1 : (.fieldLink RX12 163 "FortyBeltsModel" "drumMany" "I" : Cond) ∈ wsX12_drum := (List.mem_cons_of_mem _ (List.mem_append_left _ (List.mem_of_getElem? (i := 1) rfl)))
theorem hwX12_drum_2 : (.fieldLink RX12 47 "FortyBeltsModel" "drumSize" "[I" : Cond) ∈ wsX12_drum := (List.mem_cons_of_mem _ (List.mem_append_left _ (List.mem_of_getElem? (i := 2) rfl)))
theorem hcX12_drum_X12 : ∀ w ∈ wsX120, w ∈ wsX12_drum := fun _ h => (List.mem_cons_of_mem _ (List.mem_append_right _ h))
set_option maxHeartbeats 4000000 in
set_option maxRecDepth 100000 in
theorem J_X12_drum {D : va_G} {KA : Nat → ClassId} {zs : ZS} {ad : Nat → Nat} {ids : List Nat} {sz : Nat} (l : Launch) (hI : ∀ c, c < 35 → c ∈ ids) {a1 : Int32}  {σ : St} {post : Int32 → St → Prop} (h : wX12_drum  a1 σ post) : Met l yX12_drum wsX12_drum rmX12_drum (va_Pc [.ref (ad 0), .int a1] (xIn D KA zs layR stR ad ids sz σ)) (va_Qi post (xOut D KA layR stR ad ids) (xA ad ids sz)) 0 0 (xA ad ids sz) := by
  refine Met.ofW (cc := cX12_drum) (maxL := 2) (ret := (some .int)) (by decide) rfl ?_
  intro p e s m args below meth c s₁ B hml hv
  obtain ⟨hav, hsz, hK, hZ, hP, hD⟩ := hv
  have hx := B.exec
  have hb := B.bytes
  have hr := B.returns
  have hts := atoms_spec (ws := wsX12_drum) B.pre
  have hown : s.vm.findClass RX12 = some m.cls := findClass_of_methodNamed B.named
  have hlocks := B.notSynchronized
  subst hsz
  have hA : ∀ q : Nat, s.heap.size ≤ q → xA ad ids s.heap.size q := fun q h => Or.inr h
  have hW : xW D KA layR stR ad ids (xA ad ids s.heap.size) s.heap σ s.heap [] := ⟨hP, xA_D (D := D) hD, va_S.rf⟩
  have kr : ∀ (v : Int32) (σ : St) (H : Heap) (locs : List Loc) (ls : Array Slot) (pc : Nat), xW D KA layR stR ad ids (xA ad ids s.heap.size) s.heap σ H locs → post v σ → decode cX12_drum pc = .ok (.ireturn, 1) → W p l e rmX12_drum s m args below meth c H locs 0 0 (MQ below (va_Qi post (xOut D KA layR stR ad ids) (xA ad ids s.heap.size)) args s 0 0 (xA ad ids s.heap.size)) (F0 m pc ls [.int v]) := fun v σ H locs ls pc hW h hd => x_iret hx hb hr hlocks hW h hd
  have hl := lv_entry ([.ref (ad 0), .int a1]) (n := 2) (Nat.le_of_ble_eq_true rfl)
  rw [show entryFrame m args 2 = entryFrame m ([.ref (ad 0), .int a1] : List Value).toArray 2 from by rw [hav]]
  rw [lg_entry_eq]
  generalize (lg_sl ([.ref (ad 0), .int a1]) ++ List.replicate (2 - (lg_sl ([.ref (ad 0), .int a1])).length) Slot.unset).toArray = ls at hl ⊢
  have hl : lv_has ls 2 [(0, .ref (ad 0)), (1, .int a1)] := hl
  show W p l e rmX12_drum s m args below meth c s.heap [] 0 0 _ _
  generalize MQ below (va_Qi post (xOut D KA layR stR ad ids) (xA ad ids s.heap.size)) args s 0 0 (xA ad ids s.heap.size) = Q at kr ⊢
  have main : ∀ (H : Heap) (locs : List Loc) (ls : Array Slot), xW D KA layR stR ad ids (xA ad ids s.heap.size) s.heap σ H locs → lv_has ls 2 [(0, .ref (ad 0)), (1, .int a1)] → W p l e rmX12_drum s m args below meth c H locs 0 0 Q (F0 m 0 ls []) := by
    intro H locs ls hW hl
    unfold wX12_drum at h
    refine lv_iload_n hx hb dX12_drum_0 rfl (lv_at hl 1 rfl) ?_
    refine lv_i2l hx hb dX12_drum_1 rfl ?_
    refine lv_lconst (v := 1) hx hb dX12_drum_2 (by decide) ?_
    refine lv_ldc2 hx hb hown (hts _ hwX12_drum_0) dX12_drum_3 ?_
    refine x_calli (va_runS (As := [.long (a1.toInt64), .long (1 : Int64), .long (99 : Int64)]) (rest := []) ⟨hx, hb, hml, hown, hts⟩ (J_X12_in l hI h) (va_cwS 3 hts gX12_drum_X12_in rfl rfl rfl hdS_X12_in ⟨Nat.le_of_ble_eq_true rfl, Nat.le_of_ble_eq_true rfl⟩) (x_preS hK hZ hA hW) rfl rfl hl.1 rfl (lv_room (Nat.le_of_ble_eq_true rfl)) dX12_drum_6 ⟨Nat.zero_le _, Nat.zero_le _⟩) hW hA (fun r1002 σ1001 H locs h hW => ?_)
    try dsimp only at h
    refine lv_if_ne (tgt := 15) hx hb dX12_drum_9 (by decide) (fun c1003 => ?_) (fun c1003 => ?_)
    · have h := h.1 c1003
      refine lv_aload_n hx hb dX12_drum_15 rfl (lv_at hl 0 rfl) ?_
      refine xgX12_20 hx hb hts hown hK hW 0 hcX12_drum_X12 (hI 0 (by decide)) lR_0 (hts _ hwX12_drum_1) dX12_drum_16 ?_
      refine lv_bipush (v := 12) hx hb dX12_drum_19 (by decide) ?_
      refine lv_icmp_ne (tgt := 27) hx hb dX12_drum_21 (by decide) (fun c1004 => ?_) (fun c1004 => ?_)
      · have h := h.1 c1004
        refine lv_aload_n hx hb dX12_drum_27 rfl (lv_at hl 0 rfl) ?_
        refine xgX12_19r hx hb hts hown hK hW 0 hcX12_drum_X12 (hI 0 (by decide)) lR_0 (hts _ hwX12_drum_2) (sR_0_19 _) dX12_drum_28 ?_
        refine lv_aload_n hx hb dX12_drum_31 rfl (lv_at hl 0 rfl) ?_
        refine xgX12_20 hx hb hts hown hK hW 0 hcX12_drum_X12 (hI 0 (by decide)) lR_0 (hts _ hwX12_drum_1) dX12_drum_32 ?_
        refine lv_iload_n hx hb dX12_drum_35 rfl (lv_at hl 1 rfl) ?_
        obtain ⟨hi1005, h⟩ := h
        refine x_iast hx hb hK hW 12 (hI 12 (by decide)) lR_12 hi1005 dX12_drum_36 (fun σ1006 H locs hσ1006 hW => ?_)
        have h := h σ1006 hσ1006
        refine lv_aload_n hx hb dX12_drum_37 rfl (lv_at hl 0 rfl) ?_
        refine lv_dup hx hb dX12_drum_38 rfl ?_
        refine xgX12_20 hx hb hts hown hK hW 0 hcX12_drum_X12 (hI 0 (by decide)) lR_0 (hts _ hwX12_drum_1) dX12_drum_39 ?_
        refine lv_iconst (v := 1) hx hb dX12_drum_42 (by decide) ?_
        refine lv_iadd hx hb dX12_drum_43 ?_
        refine xpX12_20 hx hb hts hown hK hW 0 hcX12_drum_X12 (hI 0 (by decide)) lR_0 (hts _ hwX12_drum_1) dX12_drum_44 (fun σ1007 H locs hσ1007 hW => ?_)
        have h := h σ1007 hσ1007
        refine lv_aload_n hx hb dX12_drum_47 rfl (lv_at hl 0 rfl) ?_
        refine xgX12_20 hx hb hts hown hK hW 0 hcX12_drum_X12 (hI 0 (by decide)) lR_0 (hts _ hwX12_drum_1) dX12_drum_48 ?_
        refine lv_iconst (v := 1) hx hb dX12_drum_51 (by decide) ?_
        refine lv_isub hx hb dX12_drum_52 ?_
        exact kr _ _ _ _ _ _ hW h dX12_drum_53
      · have h := h.2 c1004
        refine lv_bipush (v := (-4)) hx hb dX12_drum_24 (by decide) ?_
        exact kr _ _ _ _ _ _ hW h dX12_drum_26
    · have h := h.2 c1003
      refine lv_bipush (v := (-2)) hx hb dX12_drum_12 (by decide) ?_
      exact kr _ _ _ _ _ _ hW h dX12_drum_14
  exact main _ _ _ hW hl
theorem hwX12_drums_0 : (.fieldLink RX12 118 "FortyBeltsModel" "sheetSize" "[I" : Cond) ∈ wsX12_drums := (List.mem_cons_of_mem _ (List.mem_append_left _ (List.mem_of_getElem? (i := 4) rfl)))
theorem hwX12_drums_1 : (.fieldLink RX12 121 "FortyBeltsModel" "items" "[I" : Cond) ∈ wsX12_drums := (List.mem_cons_of_mem _ (List.mem_append_left _ (List.mem_of_getElem? (i := 5) rfl)))
theorem hwX12_drums_2 : (.fieldLink RX12 111 "FortyBeltsModel" "isThere" "[Z" : Cond) ∈ wsX12_drums := (List.mem_cons_of_mem _ (List.mem_append_left _ (List.mem_of_getElem? (i := 2) rfl)))
theorem hwX12_drums_3 : (.constantLong RX12 186 (2) : Cond) ∈ wsX12_drums := (List.mem_cons_of_mem _ (List.mem_append_left _ (List.mem_of_getElem? (i := 0) rfl)))
theorem hwX12_drums_4 : (.constantLong RX12 476 (12) : Cond) ∈ wsX12_drums := (List.mem_cons_of_mem _ (List.mem_append_left _ (List.mem_of_getElem? (i := 1) rfl)))
theorem hwX12_drums_5 : (.fieldLink RX12 115 "FortyBeltsModel" "sorts" "[I" : Cond) ∈ wsX12_drums := (List.mem_cons_of_mem _ (List.mem_append_left _ (List.mem_of_getElem? (i := 3) rfl)))
theorem hcX12_drums_X12 : ∀ w ∈ wsX120, w ∈ wsX12_drums := fun _ h => (List.mem_cons_of_mem _ (List.mem_append_right _ h))
set_option maxHeartbeats 4000000 in
set_option maxRecDepth 100000 in
theorem J_X12_drums {D : va_G} {KA : Nat → ClassId} {zs : ZS} {ad : Nat → Nat} {ids : List Nat} {sz : Nat} (l : Launch) (hI : ∀ c, c < 35 → c ∈ ids) {a1 : Int32} {a2 : Int32} {a3 : Int32} {a4 : Int32}  {σ : St} {post : Int32 → St → Prop} (h : wX12_drums  a1 a2 a3 a4 σ post) : Met l yX12_drums wsX12_drums rmX12_drums (va_Pc [.ref (ad 0), .int a1, .int a2, .int a3, .int a4] (xIn D KA zs layR stR ad ids sz σ)) (va_Qi post (xOut D KA layR stR ad ids) (xA ad ids sz)) 0 0 (xA ad ids sz) := by
  refine Met.ofW (cc := cX12_drums) (maxL := 7) (ret := (some .int)) (by decide) rfl ?_
  intro p e s m args below meth c s₁ B hml hv
  obtain ⟨hav, hsz, hK, hZ, hP, hD⟩ := hv
  have hx := B.exec
  have hb := B.bytes
  have hr := B.returns
  have hts := atoms_spec (ws := wsX12_drums) B.pre
  have hown : s.vm.findClass RX12 = some m.cls := findClass_of_methodNamed B.named
  have hlocks := B.notSynchronized
  subst hsz
  have hA : ∀ q : Nat, s.heap.size ≤ q → xA ad ids s.heap.size q := fun q h => Or.inr h
  have hW : xW D KA layR stR ad ids (xA ad ids s.heap.size) s.heap σ s.heap [] := ⟨hP, xA_D (D := D) hD, va_S.rf⟩
  have kr : ∀ (v : Int32) (σ : St) (H : Heap) (locs : List Loc) (ls : Array Slot) (pc : Nat), xW D KA layR stR ad ids (xA ad ids s.heap.size) s.heap σ H locs → post v σ → decode cX12_drums pc = .ok (.ireturn, 1) → W p l e rmX12_drums s m args below meth c H locs 0 0 (MQ below (va_Qi post (xOut D KA layR stR ad ids) (xA ad ids s.heap.size)) args s 0 0 (xA ad ids s.heap.size)) (F0 m pc ls [.int v]) := fun v σ H locs ls pc hW h hd => x_iret hx hb hr hlocks hW h hd
  have hl := lv_entry ([.ref (ad 0), .int a1, .int a2, .int a3, .int a4]) (n := 7) (Nat.le_of_ble_eq_true rfl)
  rw [show entryFrame m args 7 = entryFrame m ([.ref (ad 0), .int a1, .int a2, .int a3, .int a4] : List Value).toArray 7 from by rw [hav]]
  rw [lg_entry_eq]
  generalize (lg_sl ([.ref (ad 0), .int a1, .int a2, .int a3, .int a4]) ++ List.replicate (7 - (lg_sl ([.ref (ad 0), .int a1, .int a2, .int a3, .int a4])).length) Slot.unset).toArray = ls at hl ⊢
  have hl : lv_has ls 7 [(0, .ref (ad 0)), (1, .int a1), (2, .int a2), (3, .int a3), (4, .int a4)] := hl
  show W p l e rmX12_drums s m args below meth c s.heap [] 0 0 _ _
  generalize MQ below (va_Qi post (xOut D KA layR stR ad ids) (xA ad ids s.heap.size)) args s 0 0 (xA ad ids s.heap.size) = Q at kr ⊢
  have blk132 : ∀ (x1 : Int32) (x3 : Int32) (x4 : Int32) (k75 : Int32 → Int32 → St → Prop) (hk75 : ∀ (x5 : Int32) (x6 : Int32) (σ : St) (H : Heap) (locs : List Loc) (ls : Array Slot), xW D KA layR stR ad ids (xA ad ids s.heap.size) s.heap σ H locs → lv_has ls 7 [(0, .ref (ad 0)), (1, .int x1), (3, .int x3), (4, .int x4), (5, .int x5), (6, .int x6)] → k75 x5 x6 σ → W p l e rmX12_drums s m args below meth c H locs 0 0 Q (F0 m 75 ls [])) (x6 : Int32) (s0 : Int32) (s1 : Int32) (σ : St) (H : Heap) (locs : List Loc) (ls : Array Slot), xW D KA layR stR ad ids (xA ad ids s.heap.size) s.heap σ H locs → lv_has ls 7 [(0, .ref (ad 0)), (1, .int x1), (3, .int x3), (4, .int x4), (6, .int x6)] → wX12_drums_132 k75 post x1 x3 x4 x6 s0 s1 σ → W p l e rmX12_drums s m args below meth c H locs 0 0 Q (F0 m 132 ls [.int s1, .int s0]) := by
    intro x1 x3 x4 k75 hk75 x6 s0 s1 σ H locs ls hW hl h
    unfold wX12_drums_132 at h
    refine lv_iadd hx hb dX12_drums_132 ?_
    refine lv_topi (fun v1 hv1 => ?_)
    have h := h v1 hv1
    refine lv_istore (lv' := [(5, .int v1), (0, .ref (ad 0)), (1, .int x1), (3, .int x3), (4, .int x4), (6, .int x6)]) hx hb dX12_drums_133 hl (by decide) rfl (fun ls hl => ?_)
    obtain ⟨v2, hv2⟩ : ∃ y : Int32, y = x6 + (1 : Int32) := ⟨_, rfl⟩
    have h := h v2 hv2
    refine lv_iinc (v := v2) (lv' := [(6, .int v2), (5, .int v1), (0, .ref (ad 0)), (1, .int x1), (3, .int x3), (4, .int x4)]) hx hb dX12_drums_135 hl (k := 5) rfl (by rw [hv2]; rfl) (by decide) rfl (fun ls hl => ?_)
    refine lv_goto (tgt := 75) hx hb dX12_drums_138 (by decide) ?_
    exact hk75 v1 v2 _ _ _ _ hW (lv_sub hl [2, 3, 4, 5, 1, 0] rfl) h
  have blk101 : ∀ (σ : St) (H : Heap) (locs : List Loc) (ls : Array Slot), xW D KA layR stR ad ids (xA ad ids s.heap.size) s.heap σ H locs → lv_has ls 7 [] → wX12_drums_101 post  σ → W p l e rmX12_drums s m args below meth c H locs 0 0 Q (F0 m 101 ls []) := by
    intro    σ H locs ls hW hl h
    unfold wX12_drums_101 at h
    refine lv_bipush (v := (-12)) hx hb dX12_drums_101 (by decide) ?_
    exact kr _ _ _ _ _ _ hW h dX12_drums_103
  have blk75 : ∀ (x1 : Int32) (x3 : Int32) (x4 : Int32) (n : Nat) (x5 : Int32) (x6 : Int32) (σ : St) (H : Heap) (locs : List Loc) (ls : Array Slot), xW D KA layR stR ad ids (xA ad ids s.heap.size) s.heap σ H locs → lv_has ls 7 [(0, .ref (ad 0)), (1, .int x1), (3, .int x3), (4, .int x4), (5, .int x5), (6, .int x6)] → wX12_drums_75 post x1 x3 x4 n x5 x6 σ → W p l e rmX12_drums s m args below meth c H locs 0 0 Q (F0 m 75 ls []) := by
    intro   x1 x3 x4 n
    induction n with
    | zero => intro x5 x6 σ H locs ls hW hl h; exact (h : False).elim
    | succ n ih =>
      intro x5 x6 σ H locs ls hW hl h
      have hk75 : ∀ (x5 : Int32) (x6 : Int32) (σ : St) (H : Heap) (locs : List Loc) (ls : Array Slot), xW D KA layR stR ad ids (xA ad ids s.heap.size) s.heap σ H locs → lv_has ls 7 [(0, .ref (ad 0)), (1, .int x1), (3, .int x3), (4, .int x4), (5, .int x5), (6, .int x6)] → (wX12_drums_75 post x1 x3 x4 n) x5 x6 σ → W p l e rmX12_drums s m args below meth c H locs 0 0 Q (F0 m 75 ls []) := fun x5 x6 σ H locs ls hW hl h => ih x5 x6 σ H locs ls hW hl h
      rw [wX12_drums_75_s] at h
      try dsimp only at h
      generalize wX12_drums_75 post x1 x3 x4 n = k75 at h hk75
      refine lv_iload hx hb dX12_drums_75 (lv_at hl 5 rfl) ?_
      refine lv_iload hx hb dX12_drums_77 (lv_at hl 3 rfl) ?_
      refine lv_icmp_ge (tgt := 141) hx hb dX12_drums_79 (by decide) (fun c3 => ?_) (fun c3 => ?_)
      · have h := h.1 c3
        refine lv_iload hx hb dX12_drums_141 (lv_at hl 4 rfl) ?_
        exact kr _ _ _ _ _ _ hW h dX12_drums_143
      · have h := h.2 c3
        refine lv_iload_n hx hb dX12_drums_82 rfl (lv_at hl 2 rfl) ?_
        refine lv_if_lt (tgt := 101) hx hb dX12_drums_83 (by decide) (fun c4 => ?_) (fun c4 => ?_)
        · have h := h.1 c4
          exact blk101    _ _ _ _ hW (lv_sub hl [] rfl) h
        · have h := h.2 c4
          refine lv_iload_n hx hb dX12_drums_86 rfl (lv_at hl 2 rfl) ?_
          refine lv_aload_n hx hb dX12_drums_87 rfl (lv_at hl 0 rfl) ?_
          refine xgX12_69r hx hb hts hown hK hW 0 hcX12_drums_X12 (hI 0 (by decide)) lR_0 (hts _ hwX12_drums_0) (sR_0_69 _) dX12_drums_88 ?_
          refine lv_iload_n hx hb dX12_drums_91 rfl (lv_at hl 1 rfl) ?_
          obtain ⟨hi5, h⟩ := h
          refine x_iald hx hb hK hW 33 (hI 33 (by decide)) lR_33 hi5 dX12_drums_92 ?_
          refine lv_iload hx hb dX12_drums_93 (lv_at hl 5 rfl) ?_
          refine lv_isub hx hb dX12_drums_95 ?_
          refine lv_iconst (v := 1) hx hb dX12_drums_96 (by decide) ?_
          refine lv_isub hx hb dX12_drums_97 ?_
          refine lv_icmp_le (tgt := 104) hx hb dX12_drums_98 (by decide) (fun c6 => ?_) (fun c6 => ?_)
          · have h := h.1 c6
            refine lv_iload hx hb dX12_drums_104 (lv_at hl 4 rfl) ?_
            refine lv_aload_n hx hb dX12_drums_106 rfl (lv_at hl 0 rfl) ?_
            refine lv_aload_n hx hb dX12_drums_107 rfl (lv_at hl 0 rfl) ?_
            refine xgX12_70r hx hb hts hown hK hW 0 hcX12_drums_X12 (hI 0 (by decide)) lR_0 (hts _ hwX12_drums_1) (sR_0_70 _) dX12_drums_108 ?_
            refine lv_bipush (v := 40) hx hb dX12_drums_111 (by decide) ?_
            refine lv_iload_n hx hb dX12_drums_113 rfl (lv_at hl 1 rfl) ?_
            refine lv_imul hx hb dX12_drums_114 ?_
            refine lv_iload_n hx hb dX12_drums_115 rfl (lv_at hl 2 rfl) ?_
            refine lv_iadd hx hb dX12_drums_116 ?_
            refine lv_iload hx hb dX12_drums_117 (lv_at hl 5 rfl) ?_
            refine lv_iadd hx hb dX12_drums_119 ?_
            obtain ⟨hi7, h⟩ := h
            refine x_iald hx hb hK hW 34 (hI 34 (by decide)) lR_34 hi7 dX12_drums_120 ?_
            refine x_calli (va_runV (As := [.int (gI σ 34 ((((40 : Int32) * x1) + x3) + x6).toNatClampNeg)]) (rest := [.int x5]) ⟨hx, hb, hml, hown, hts⟩ (J_X12_drum l hI h) (cwV 1 hts gX12_drums_X12_drum rfl rfl rfl hdV_X12_drum ⟨Nat.le_of_ble_eq_true rfl, Nat.le_of_ble_eq_true rfl⟩) (x_preV (ci := 12) hK hZ hA hW (hI 0 (by decide)) lR_0 rfl) rfl rfl hl.1 rfl (lv_room (Nat.le_of_ble_eq_true rfl)) dX12_drums_121 ⟨Nat.zero_le _, Nat.zero_le _⟩) hW hA (fun r9 σ8 H locs h hW => ?_)
            try dsimp only at h
            refine lv_if_lt (tgt := 131) hx hb dX12_drums_124 (by decide) (fun c10 => ?_) (fun c10 => ?_)
            · have h := h.1 c10
              refine lv_iconst (v := 0) hx hb dX12_drums_131 (by decide) ?_
              exact blk132 x1 x3 x4 k75 hk75 x6 x5 (0 : Int32) _ _ _ _ hW (lv_sub hl [0, 1, 2, 3, 5] rfl) h
            · have h := h.2 c10
              refine lv_iconst (v := 1) hx hb dX12_drums_127 (by decide) ?_
              refine lv_goto (tgt := 132) hx hb dX12_drums_128 (by decide) ?_
              exact blk132 x1 x3 x4 k75 hk75 x6 x5 (1 : Int32) _ _ _ _ hW (lv_sub hl [0, 1, 2, 3, 5] rfl) h
          · have h := h.2 c6
            exact blk101    _ _ _ _ hW (lv_sub hl [] rfl) h
  have blk57 : ∀ (x1 : Int32) (x3 : Int32) (x4 : Int32) (σ : St) (H : Heap) (locs : List Loc) (ls : Array Slot), xW D KA layR stR ad ids (xA ad ids s.heap.size) s.heap σ H locs → lv_has ls 7 [(0, .ref (ad 0)), (1, .int x1), (3, .int x3), (4, .int x4)] → wX12_drums_57 post x1 x3 x4 σ → W p l e rmX12_drums s m args below meth c H locs 0 0 Q (F0 m 57 ls []) := by
    intro   x1 x3 x4 σ H locs ls hW hl h
    unfold wX12_drums_57 at h
    refine lv_aload_n hx hb dX12_drums_57 rfl (lv_at hl 0 rfl) ?_
    refine xgX12_67r hx hb hts hown hK hW 0 hcX12_drums_X12 (hI 0 (by decide)) lR_0 (hts _ hwX12_drums_2) (sR_0_67 _) dX12_drums_58 ?_
    refine lv_iload_n hx hb dX12_drums_61 rfl (lv_at hl 1 rfl) ?_
    obtain ⟨hi11, h⟩ := h
    refine x_zald hx hb hK hW 31 (hI 31 (by decide)) lR_31 hi11 dX12_drums_62 ?_
    refine lv_if_ne (tgt := 69) hx hb dX12_drums_63 (by decide) (fun c12 => ?_) (fun c12 => ?_)
    · have h := h.1 c12
      refine lv_iconst (v := 0) hx hb dX12_drums_69 (by decide) ?_
      refine lv_istore (lv' := [(5, .int (0 : Int32)), (0, .ref (ad 0)), (1, .int x1), (3, .int x3), (4, .int x4)]) hx hb dX12_drums_70 hl (by decide) rfl (fun ls hl => ?_)
      refine lv_iconst (v := 0) hx hb dX12_drums_72 (by decide) ?_
      refine lv_istore (lv' := [(6, .int (0 : Int32)), (5, .int (0 : Int32)), (0, .ref (ad 0)), (1, .int x1), (3, .int x3), (4, .int x4)]) hx hb dX12_drums_73 hl (by decide) rfl (fun ls hl => ?_)
      obtain ⟨n, h⟩ := h
      exact blk75   x1 x3 x4 n (0 : Int32) (0 : Int32) _ _ _ _ hW (lv_sub hl [2, 3, 4, 5, 1, 0] rfl) h
    · have h := h.2 c12
      refine lv_bipush (v := (-11)) hx hb dX12_drums_66 (by decide) ?_
      exact kr _ _ _ _ _ _ hW h dX12_drums_68
  have blk32 : ∀ (σ : St) (H : Heap) (locs : List Loc) (ls : Array Slot), xW D KA layR stR ad ids (xA ad ids s.heap.size) s.heap σ H locs → lv_has ls 7 [] → wX12_drums_32 post  σ → W p l e rmX12_drums s m args below meth c H locs 0 0 Q (F0 m 32 ls []) := by
    intro    σ H locs ls hW hl h
    unfold wX12_drums_32 at h
    refine lv_bipush (v := (-2)) hx hb dX12_drums_32 (by decide) ?_
    exact kr _ _ _ _ _ _ hW h dX12_drums_34
  have main : ∀ (H : Heap) (locs : List Loc) (ls : Array Slot), xW D KA layR stR ad ids (xA ad ids s.heap.size) s.heap σ H locs → lv_has ls 7 [(0, .ref (ad 0)), (1, .int a1), (2, .int a2), (3, .int a3), (4, .int a4)] → W p l e rmX12_drums s m args below meth c H locs 0 0 Q (F0 m 0 ls []) := by
    intro H locs ls hW hl
    unfold wX12_drums at h
    refine lv_iload_n hx hb dX12_drums_0 rfl (lv_at hl 1 rfl) ?_
    refine x_calli (va_runS (As := [.int a1]) (rest := []) ⟨hx, hb, hml, hown, hts⟩ (J_X12_isSheet l hI h) (va_cwS 1 hts gX12_drums_X12_isSheet rfl rfl rfl hdS_X12_isSheet ⟨Nat.le_of_ble_eq_true rfl, Nat.le_of_ble_eq_true rfl⟩) (x_preS hK hZ hA hW) rfl rfl hl.1 rfl (lv_room (Nat.le_of_ble_eq_true rfl)) dX12_drums_1 ⟨Nat.zero_le _, Nat.zero_le _⟩) hW hA (fun r1002 σ1001 H locs h hW => ?_)
    try dsimp only at h
    refine lv_if_eq (tgt := 32) hx hb dX12_drums_4 (by decide) (fun c1003 => ?_) (fun c1003 => ?_)
    · have h := h.1 c1003
      exact blk32    _ _ _ _ hW (lv_sub hl [] rfl) h
    · have h := h.2 c1003
      refine lv_iload_n hx hb dX12_drums_7 rfl (lv_at hl 2 rfl) ?_
      refine lv_i2l hx hb dX12_drums_8 rfl ?_
      refine lv_lconst (v := 0) hx hb dX12_drums_9 (by decide) ?_
      refine lv_ldc2 hx hb hown (hts _ hwX12_drums_3) dX12_drums_10 ?_
      refine x_calli (va_runS (As := [.long (a2.toInt64), .long (0 : Int64), .long (2 : Int64)]) (rest := []) ⟨hx, hb, hml, hown, hts⟩ (J_X12_in l hI h) (va_cwS 3 hts gX12_drums_X12_in rfl rfl rfl hdS_X12_in ⟨Nat.le_of_ble_eq_true rfl, Nat.le_of_ble_eq_true rfl⟩) (x_preS hK hZ hA hW) rfl rfl hl.1 rfl (lv_room (Nat.le_of_ble_eq_true rfl)) dX12_drums_13 ⟨Nat.zero_le _, Nat.zero_le _⟩) hW hA (fun r1005 σ1004 H locs h hW => ?_)
      try dsimp only at h
      refine lv_if_eq (tgt := 32) hx hb dX12_drums_16 (by decide) (fun c1006 => ?_) (fun c1006 => ?_)
      · have h := h.1 c1006
        exact blk32    _ _ _ _ hW (lv_sub hl [] rfl) h
      · have h := h.2 c1006
        refine lv_iload hx hb dX12_drums_19 (lv_at hl 4 rfl) ?_
        refine lv_i2l hx hb dX12_drums_21 rfl ?_
        refine lv_lconst (v := 0) hx hb dX12_drums_22 (by decide) ?_
        refine lv_ldc2 hx hb hown (hts _ hwX12_drums_4) dX12_drums_23 ?_
        refine x_calli (va_runS (As := [.long (a4.toInt64), .long (0 : Int64), .long (12 : Int64)]) (rest := []) ⟨hx, hb, hml, hown, hts⟩ (J_X12_in l hI h) (va_cwS 3 hts gX12_drums_X12_in rfl rfl rfl hdS_X12_in ⟨Nat.le_of_ble_eq_true rfl, Nat.le_of_ble_eq_true rfl⟩) (x_preS hK hZ hA hW) rfl rfl hl.1 rfl (lv_room (Nat.le_of_ble_eq_true rfl)) dX12_drums_26 ⟨Nat.zero_le _, Nat.zero_le _⟩) hW hA (fun r1008 σ1007 H locs h hW => ?_)
        try dsimp only at h
        refine lv_if_ne (tgt := 35) hx hb dX12_drums_29 (by decide) (fun c1009 => ?_) (fun c1009 => ?_)
        · have h := h.1 c1009
          refine lv_aload_n hx hb dX12_drums_35 rfl (lv_at hl 0 rfl) ?_
          refine xgX12_67r hx hb hts hown hK hW 0 hcX12_drums_X12 (hI 0 (by decide)) lR_0 (hts _ hwX12_drums_2) (sR_0_67 _) dX12_drums_36 ?_
          refine lv_iload_n hx hb dX12_drums_39 rfl (lv_at hl 1 rfl) ?_
          obtain ⟨hi1010, h⟩ := h
          refine x_zald hx hb hK hW 31 (hI 31 (by decide)) lR_31 hi1010 dX12_drums_40 ?_
          refine lv_if_eq (tgt := 57) hx hb dX12_drums_41 (by decide) (fun c1011 => ?_) (fun c1011 => ?_)
          · have h := h.1 c1011
            exact blk57   a1 a3 a4 _ _ _ _ hW (lv_sub hl [0, 1, 3, 4] rfl) h
          · have h := h.2 c1011
            refine lv_aload_n hx hb dX12_drums_44 rfl (lv_at hl 0 rfl) ?_
            refine xgX12_68r hx hb hts hown hK hW 0 hcX12_drums_X12 (hI 0 (by decide)) lR_0 (hts _ hwX12_drums_5) (sR_0_68 _) dX12_drums_45 ?_
            refine lv_iload_n hx hb dX12_drums_48 rfl (lv_at hl 1 rfl) ?_
            refine x_iald hx hb hK hW 32 (hI 32 (by decide)) lR_32 hi1010 dX12_drums_49 ?_
            refine lv_iload_n hx hb dX12_drums_50 rfl (lv_at hl 2 rfl) ?_
            refine lv_icmp_eq (tgt := 57) hx hb dX12_drums_51 (by decide) (fun c1013 => ?_) (fun c1013 => ?_)
            · have h := h.1 c1013
              exact blk57   a1 a3 a4 _ _ _ _ hW (lv_sub hl [0, 1, 3, 4] rfl) h
            · have h := h.2 c1013
              refine lv_bipush (v := (-13)) hx hb dX12_drums_54 (by decide) ?_
              exact kr _ _ _ _ _ _ hW h dX12_drums_56
        · have h := h.2 c1009
          exact blk32    _ _ _ _ hW (lv_sub hl [] rfl) h
  exact main _ _ _ hW hl
theorem hwX12_engine_0 : (.fieldLink RX12 148 "FortyBeltsModel" "power" "I" : Cond) ∈ wsX12_engine := (List.mem_cons_of_mem _ (List.mem_append_left _ (List.mem_of_getElem? (i := 3) rfl)))
theorem hwX12_engine_1 : (.fieldLink RX12 145 "FortyBeltsModel" "engineTurns" "I" : Cond) ∈ wsX12_engine := (List.mem_cons_of_mem _ (List.mem_append_left _ (List.mem_of_getElem? (i := 2) rfl)))
theorem hwX12_engine_2 : (.constantLong RX12 171 (9999) : Cond) ∈ wsX12_engine := (List.mem_cons_of_mem _ (List.mem_append_left _ (List.mem_of_getElem? (i := 1) rfl)))
theorem hwX12_engine_3 : (.constantLong RX12 173 (999) : Cond) ∈ wsX12_engine := (List.mem_cons_of_mem _ (List.mem_append_left _ (List.mem_of_getElem? (i := 0) rfl)))
theorem hcX12_engine_X12 : ∀ w ∈ wsX120, w ∈ wsX12_engine := fun _ h => (List.mem_cons_of_mem _ (List.mem_append_right _ h))
set_option maxHeartbeats 4000000 in
set_option maxRecDepth 100000 in
theorem J_X12_engine {D : va_G} {KA : Nat → ClassId} {zs : ZS} {ad : Nat → Nat} {ids : List Nat} {sz : Nat} (l : Launch) (hI : ∀ c, c < 35 → c ∈ ids) {a1 : Int32} {a2 : Int32}  {σ : St} {post : Int32 → St → Prop} (h : wX12_engine  a1 a2 σ post) : Met l yX12_engine wsX12_engine rmX12_engine (va_Pc [.ref (ad 0), .int a1, .int a2] (xIn D KA zs layR stR ad ids sz σ)) (va_Qi post (xOut D KA layR stR ad ids) (xA ad ids sz)) 0 0 (xA ad ids sz) := by
  refine Met.ofW (cc := cX12_engine) (maxL := 4) (ret := (some .int)) (by decide) rfl ?_
  intro p e s m args below meth c s₁ B hml hv
  obtain ⟨hav, hsz, hK, hZ, hP, hD⟩ := hv
  have hx := B.exec
  have hb := B.bytes
  have hr := B.returns
  have hts := atoms_spec (ws := wsX12_engine) B.pre
  have hown : s.vm.findClass RX12 = some m.cls := findClass_of_methodNamed B.named
  have hlocks := B.notSynchronized
  subst hsz
  have hA : ∀ q : Nat, s.heap.size ≤ q → xA ad ids s.heap.size q := fun q h => Or.inr h
  have hW : xW D KA layR stR ad ids (xA ad ids s.heap.size) s.heap σ s.heap [] := ⟨hP, xA_D (D := D) hD, va_S.rf⟩
  have kr : ∀ (v : Int32) (σ : St) (H : Heap) (locs : List Loc) (ls : Array Slot) (pc : Nat), xW D KA layR stR ad ids (xA ad ids s.heap.size) s.heap σ H locs → post v σ → decode cX12_engine pc = .ok (.ireturn, 1) → W p l e rmX12_engine s m args below meth c H locs 0 0 (MQ below (va_Qi post (xOut D KA layR stR ad ids) (xA ad ids s.heap.size)) args s 0 0 (xA ad ids s.heap.size)) (F0 m pc ls [.int v]) := fun v σ H locs ls pc hW h hd => x_iret hx hb hr hlocks hW h hd
  have hl := lv_entry ([.ref (ad 0), .int a1, .int a2]) (n := 4) (Nat.le_of_ble_eq_true rfl)
  rw [show entryFrame m args 4 = entryFrame m ([.ref (ad 0), .int a1, .int a2] : List Value).toArray 4 from by rw [hav]]
  rw [lg_entry_eq]
  generalize (lg_sl ([.ref (ad 0), .int a1, .int a2]) ++ List.replicate (4 - (lg_sl ([.ref (ad 0), .int a1, .int a2])).length) Slot.unset).toArray = ls at hl ⊢
  have hl : lv_has ls 4 [(0, .ref (ad 0)), (1, .int a1), (2, .int a2)] := hl
  show W p l e rmX12_engine s m args below meth c s.heap [] 0 0 _ _
  generalize MQ below (va_Qi post (xOut D KA layR stR ad ids) (xA ad ids s.heap.size)) args s 0 0 (xA ad ids s.heap.size) = Q at kr ⊢
  have blk68 : ∀ (x3 : Int32) (σ : St) (H : Heap) (locs : List Loc) (ls : Array Slot), xW D KA layR stR ad ids (xA ad ids s.heap.size) s.heap σ H locs → lv_has ls 4 [(3, .int x3)] → wX12_engine_68 post x3 σ → W p l e rmX12_engine s m args below meth c H locs 0 0 Q (F0 m 68 ls []) := by
    intro   x3 σ H locs ls hW hl h
    unfold wX12_engine_68 at h
    refine lv_iload_n hx hb dX12_engine_68 rfl (lv_at hl 0 rfl) ?_
    exact kr _ _ _ _ _ _ hW h dX12_engine_69
  have blk50 : ∀ (x1 : Int32) (x2 : Int32) (s0 : Int32) (σ : St) (H : Heap) (locs : List Loc) (ls : Array Slot), xW D KA layR stR ad ids (xA ad ids s.heap.size) s.heap σ H locs → lv_has ls 4 [(0, .ref (ad 0)), (1, .int x1), (2, .int x2)] → wX12_engine_50 post x1 x2 s0 σ → W p l e rmX12_engine s m args below meth c H locs 0 0 Q (F0 m 50 ls [.int s0]) := by
    intro   x1 x2 s0 σ H locs ls hW hl h
    unfold wX12_engine_50 at h
    refine lv_istore_n (lv' := [(3, .int s0), (0, .ref (ad 0)), (1, .int x1), (2, .int x2)]) hx hb dX12_engine_50 rfl hl (by decide) rfl (fun ls hl => ?_)
    refine lv_iload_n hx hb dX12_engine_51 rfl (lv_at hl 2 rfl) ?_
    refine lv_if_ne (tgt := 63) hx hb dX12_engine_52 (by decide) (fun c1 => ?_) (fun c1 => ?_)
    · have h := h.1 c1
      refine lv_aload_n hx hb dX12_engine_63 rfl (lv_at hl 1 rfl) ?_
      refine lv_iload_n hx hb dX12_engine_64 rfl (lv_at hl 3 rfl) ?_
      refine xpX12_11 hx hb hts hown hK hW 0 hcX12_engine_X12 (hI 0 (by decide)) lR_0 (hts _ hwX12_engine_0) dX12_engine_65 (fun σ2 H locs hσ2 hW => ?_)
      have h := h σ2 hσ2
      exact blk68   s0 _ _ _ _ hW (lv_sub hl [0] rfl) h
    · have h := h.2 c1
      refine lv_aload_n hx hb dX12_engine_55 rfl (lv_at hl 1 rfl) ?_
      refine lv_iload_n hx hb dX12_engine_56 rfl (lv_at hl 3 rfl) ?_
      refine xpX12_10 hx hb hts hown hK hW 0 hcX12_engine_X12 (hI 0 (by decide)) lR_0 (hts _ hwX12_engine_1) dX12_engine_57 (fun σ3 H locs hσ3 hW => ?_)
      have h := h σ3 hσ3
      refine lv_goto (tgt := 68) hx hb dX12_engine_60 (by decide) ?_
      exact blk68   s0 _ _ _ _ hW (lv_sub hl [0] rfl) h
  have blk32 : ∀ (σ : St) (H : Heap) (locs : List Loc) (ls : Array Slot), xW D KA layR stR ad ids (xA ad ids s.heap.size) s.heap σ H locs → lv_has ls 4 [] → wX12_engine_32 post  σ → W p l e rmX12_engine s m args below meth c H locs 0 0 Q (F0 m 32 ls []) := by
    intro    σ H locs ls hW hl h
    unfold wX12_engine_32 at h
    refine lv_bipush (v := (-2)) hx hb dX12_engine_32 (by decide) ?_
    exact kr _ _ _ _ _ _ hW h dX12_engine_34
  have blk26 : ∀ (x1 : Int32) (x2 : Int32) (s0 : Int64) (s1 : Int64) (s2 : Int64) (σ : St) (H : Heap) (locs : List Loc) (ls : Array Slot), xW D KA layR stR ad ids (xA ad ids s.heap.size) s.heap σ H locs → lv_has ls 4 [(0, .ref (ad 0)), (1, .int x1), (2, .int x2)] → wX12_engine_26 post x1 x2 s0 s1 s2 σ → W p l e rmX12_engine s m args below meth c H locs 0 0 Q (F0 m 26 ls [.long s2, .long s1, .long s0]) := by
    intro   x1 x2 s0 s1 s2 σ H locs ls hW hl h
    unfold wX12_engine_26 at h
    refine x_calli (va_runS (As := [.long s0, .long s1, .long s2]) (rest := []) ⟨hx, hb, hml, hown, hts⟩ (J_X12_in l hI h) (va_cwS 3 hts gX12_engine_X12_in rfl rfl rfl hdS_X12_in ⟨Nat.le_of_ble_eq_true rfl, Nat.le_of_ble_eq_true rfl⟩) (x_preS hK hZ hA hW) rfl rfl hl.1 rfl (lv_room (Nat.le_of_ble_eq_true rfl)) dX12_engine_26 ⟨Nat.zero_le _, Nat.zero_le _⟩) hW hA (fun r5 σ4 H locs h hW => ?_)
    try dsimp only at h
    refine lv_if_ne (tgt := 35) hx hb dX12_engine_29 (by decide) (fun c6 => ?_) (fun c6 => ?_)
    · have h := h.1 c6
      refine lv_iload_n hx hb dX12_engine_35 rfl (lv_at hl 1 rfl) ?_
      refine lv_if_ne (tgt := 46) hx hb dX12_engine_36 (by decide) (fun c7 => ?_) (fun c7 => ?_)
      · have h := h.1 c7
        refine lv_aload_n hx hb dX12_engine_46 rfl (lv_at hl 0 rfl) ?_
        refine xgX12_11 hx hb hts hown hK hW 0 hcX12_engine_X12 (hI 0 (by decide)) lR_0 (hts _ hwX12_engine_0) dX12_engine_47 ?_
        exact blk50   x1 x2 (gI σ4 0 11) _ _ _ _ hW (lv_sub hl [0, 1, 2] rfl) h
      · have h := h.2 c7
        refine lv_aload_n hx hb dX12_engine_39 rfl (lv_at hl 0 rfl) ?_
        refine xgX12_10 hx hb hts hown hK hW 0 hcX12_engine_X12 (hI 0 (by decide)) lR_0 (hts _ hwX12_engine_1) dX12_engine_40 ?_
        refine lv_goto (tgt := 50) hx hb dX12_engine_43 (by decide) ?_
        exact blk50   x1 x2 (gI σ4 0 10) _ _ _ _ hW (lv_sub hl [0, 1, 2] rfl) h
    · have h := h.2 c6
      exact blk32    _ _ _ _ hW (lv_sub hl [] rfl) h
  have main : ∀ (H : Heap) (locs : List Loc) (ls : Array Slot), xW D KA layR stR ad ids (xA ad ids s.heap.size) s.heap σ H locs → lv_has ls 4 [(0, .ref (ad 0)), (1, .int a1), (2, .int a2)] → W p l e rmX12_engine s m args below meth c H locs 0 0 Q (F0 m 0 ls []) := by
    intro H locs ls hW hl
    unfold wX12_engine at h
    refine lv_iload_n hx hb dX12_engine_0 rfl (lv_at hl 1 rfl) ?_
    refine lv_i2l hx hb dX12_engine_1 rfl ?_
    refine lv_lconst (v := 0) hx hb dX12_engine_2 (by decide) ?_
    refine lv_lconst (v := 1) hx hb dX12_engine_3 (by decide) ?_
    refine x_calli (va_runS (As := [.long (a1.toInt64), .long (0 : Int64), .long (1 : Int64)]) (rest := []) ⟨hx, hb, hml, hown, hts⟩ (J_X12_in l hI h) (va_cwS 3 hts gX12_engine_X12_in rfl rfl rfl hdS_X12_in ⟨Nat.le_of_ble_eq_true rfl, Nat.le_of_ble_eq_true rfl⟩) (x_preS hK hZ hA hW) rfl rfl hl.1 rfl (lv_room (Nat.le_of_ble_eq_true rfl)) dX12_engine_4 ⟨Nat.zero_le _, Nat.zero_le _⟩) hW hA (fun r1002 σ1001 H locs h hW => ?_)
    try dsimp only at h
    refine lv_if_eq (tgt := 32) hx hb dX12_engine_7 (by decide) (fun c1003 => ?_) (fun c1003 => ?_)
    · have h := h.1 c1003
      exact blk32    _ _ _ _ hW (lv_sub hl [] rfl) h
    · have h := h.2 c1003
      refine lv_iload_n hx hb dX12_engine_10 rfl (lv_at hl 2 rfl) ?_
      refine lv_i2l hx hb dX12_engine_11 rfl ?_
      refine lv_lconst (v := 1) hx hb dX12_engine_12 (by decide) ?_
      refine lv_iload_n hx hb dX12_engine_13 rfl (lv_at hl 1 rfl) ?_
      refine lv_if_ne (tgt := 23) hx hb dX12_engine_14 (by decide) (fun c1004 => ?_) (fun c1004 => ?_)
      · have h := h.1 c1004
        refine lv_ldc2 hx hb hown (hts _ hwX12_engine_2) dX12_engine_23 ?_
        exact blk26   a1 a2 (a2.toInt64) (1 : Int64) (9999 : Int64) _ _ _ _ hW (lv_sub hl [0, 1, 2] rfl) h
      · have h := h.2 c1004
        refine lv_ldc2 hx hb hown (hts _ hwX12_engine_3) dX12_engine_17 ?_
        refine lv_goto (tgt := 26) hx hb dX12_engine_20 (by decide) ?_
        exact blk26   a1 a2 (a2.toInt64) (1 : Int64) (999 : Int64) _ _ _ _ hW (lv_sub hl [0, 1, 2] rfl) h
  exact main _ _ _ hW hl
theorem hwX12_feed_0 : (.fieldLink RX12 275 "FortyBeltsModel" "taped" "I" : Cond) ∈ wsX12_feed := (List.mem_cons_of_mem _ (List.mem_append_left _ (List.mem_of_getElem? (i := 1) rfl)))
theorem hwX12_feed_1 : (.fieldLink RX12 20 "FortyBeltsModel" "tape" "[I" : Cond) ∈ wsX12_feed := (List.mem_cons_of_mem _ (List.mem_append_left _ (List.mem_of_getElem? (i := 2) rfl)))
theorem hwX12_feed_2 : (.constantLong RX12 151 (255) : Cond) ∈ wsX12_feed := (List.mem_cons_of_mem _ (List.mem_append_left _ (List.mem_of_getElem? (i := 3) rfl)))
theorem hwX12_feed_3 : (.constantLong RX12 273 (8) : Cond) ∈ wsX12_feed := (List.mem_cons_of_mem _ (List.mem_append_left _ (List.mem_of_getElem? (i := 0) rfl)))
theorem hcX12_feed_X12 : ∀ w ∈ wsX120, w ∈ wsX12_feed := fun _ h => (List.mem_cons_of_mem _ (List.mem_append_right _ h))
set_option maxHeartbeats 4000000 in
set_option maxRecDepth 100000 in
theorem J_X12_feed {D : va_G} {KA : Nat → ClassId} {zs : ZS} {ad : Nat → Nat} {ids : List Nat} {sz : Nat} (l : Launch) (hI : ∀ c, c < 35 → c ∈ ids) {a1 : Int32} {a2 : Int64}  {σ : St} {post : Int32 → St → Prop} (h : wX12_feed  a1 a2 σ post) : Met l yX12_feed wsX12_feed rmX12_feed (va_Pc [.ref (ad 0), .int a1, .long a2] (xIn D KA zs layR stR ad ids sz σ)) (va_Qi post (xOut D KA layR stR ad ids) (xA ad ids sz)) 0 0 (xA ad ids sz) := by
  refine Met.ofW (cc := cX12_feed) (maxL := 5) (ret := (some .int)) (by decide) rfl ?_
  intro p e s m args below meth c s₁ B hml hv
  obtain ⟨hav, hsz, hK, hZ, hP, hD⟩ := hv
  have hx := B.exec
  have hb := B.bytes
  have hr := B.returns
  have hts := atoms_spec (ws := wsX12_feed) B.pre
  have hown : s.vm.findClass RX12 = some m.cls := findClass_of_methodNamed B.named
  have hlocks := B.notSynchronized
  subst hsz
  have hA : ∀ q : Nat, s.heap.size ≤ q → xA ad ids s.heap.size q := fun q h => Or.inr h
  have hW : xW D KA layR stR ad ids (xA ad ids s.heap.size) s.heap σ s.heap [] := ⟨hP, xA_D (D := D) hD, va_S.rf⟩
  have kr : ∀ (v : Int32) (σ : St) (H : Heap) (locs : List Loc) (ls : Array Slot) (pc : Nat), xW D KA layR stR ad ids (xA ad ids s.heap.size) s.heap σ H locs → post v σ → decode cX12_feed pc = .ok (.ireturn, 1) → W p l e rmX12_feed s m args below meth c H locs 0 0 (MQ below (va_Qi post (xOut D KA layR stR ad ids) (xA ad ids s.heap.size)) args s 0 0 (xA ad ids s.heap.size)) (F0 m pc ls [.int v]) := fun v σ H locs ls pc hW h hd => x_iret hx hb hr hlocks hW h hd
  have hl := lv_entry ([.ref (ad 0), .int a1, .long a2]) (n := 5) (Nat.le_of_ble_eq_true rfl)
  rw [show entryFrame m args 5 = entryFrame m ([.ref (ad 0), .int a1, .long a2] : List Value).toArray 5 from by rw [hav]]
  rw [lg_entry_eq]
  generalize (lg_sl ([.ref (ad 0), .int a1, .long a2]) ++ List.replicate (5 - (lg_sl ([.ref (ad 0), .int a1, .long a2])).length) Slot.unset).toArray = ls at hl ⊢
  have hl : lv_has ls 5 [(0, .ref (ad 0)), (1, .int a1), (2, .long a2)] := hl
  show W p l e rmX12_feed s m args below meth c s.heap [] 0 0 _ _
  generalize MQ below (va_Qi post (xOut D KA layR stR ad ids) (xA ad ids s.heap.size)) args s 0 0 (xA ad ids s.heap.size) = Q at kr ⊢
  have blk33 : ∀ (x1 : Int32) (x2 : Int64) (n : Nat) (x4 : Int32) (σ : St) (H : Heap) (locs : List Loc) (ls : Array Slot), xW D KA layR stR ad ids (xA ad ids s.heap.size) s.heap σ H locs → lv_has ls 5 [(0, .ref (ad 0)), (1, .int x1), (2, .long x2), (4, .int x4)] → wX12_feed_33 post x1 x2 n x4 σ → W p l e rmX12_feed s m args below meth c H locs 0 0 Q (F0 m 33 ls []) := by
    intro   x1 x2 n
    induction n with
    | zero => intro x4 σ H locs ls hW hl h; exact (h : False).elim
    | succ n ih =>
      intro x4 σ H locs ls hW hl h
      have hk33 : ∀ (x4 : Int32) (σ : St) (H : Heap) (locs : List Loc) (ls : Array Slot), xW D KA layR stR ad ids (xA ad ids s.heap.size) s.heap σ H locs → lv_has ls 5 [(0, .ref (ad 0)), (1, .int x1), (2, .long x2), (4, .int x4)] → (wX12_feed_33 post x1 x2 n) x4 σ → W p l e rmX12_feed s m args below meth c H locs 0 0 Q (F0 m 33 ls []) := fun x4 σ H locs ls hW hl h => ih x4 σ H locs ls hW hl h
      rw [wX12_feed_33_s] at h
      try dsimp only at h
      generalize wX12_feed_33 post x1 x2 n = k33 at h hk33
      refine lv_iload hx hb dX12_feed_33 (lv_at hl 3 rfl) ?_
      refine lv_iload_n hx hb dX12_feed_35 rfl (lv_at hl 1 rfl) ?_
      refine lv_icmp_ge (tgt := 76) hx hb dX12_feed_36 (by decide) (fun c1 => ?_) (fun c1 => ?_)
      · have h := h.1 c1
        refine lv_aload_n hx hb dX12_feed_76 rfl (lv_at hl 0 rfl) ?_
        refine xgX12_6 hx hb hts hown hK hW 0 hcX12_feed_X12 (hI 0 (by decide)) lR_0 (hts _ hwX12_feed_0) dX12_feed_77 ?_
        exact kr _ _ _ _ _ _ hW h dX12_feed_80
      · have h := h.2 c1
        refine lv_aload_n hx hb dX12_feed_39 rfl (lv_at hl 0 rfl) ?_
        refine xgX12_5r hx hb hts hown hK hW 0 hcX12_feed_X12 (hI 0 (by decide)) lR_0 (hts _ hwX12_feed_1) (sR_0_5 _) dX12_feed_40 ?_
        refine lv_aload_n hx hb dX12_feed_43 rfl (lv_at hl 0 rfl) ?_
        refine xgX12_6 hx hb hts hown hK hW 0 hcX12_feed_X12 (hI 0 (by decide)) lR_0 (hts _ hwX12_feed_0) dX12_feed_44 ?_
        refine lv_lload_n hx hb dX12_feed_47 rfl (lv_at hl 2 rfl) ?_
        refine lv_bipush (v := 8) hx hb dX12_feed_48 (by decide) ?_
        refine lv_iload hx hb dX12_feed_50 (lv_at hl 3 rfl) ?_
        refine lv_imul hx hb dX12_feed_52 ?_
        refine lv_lshr hx hb dX12_feed_53 rfl ?_
        refine lv_ldc2 hx hb hown (hts _ hwX12_feed_2) dX12_feed_54 ?_
        refine lv_land hx hb dX12_feed_57 ?_
        refine lv_l2i hx hb dX12_feed_58 rfl ?_
        obtain ⟨hi2, h⟩ := h
        refine x_iast hx hb hK hW 3 (hI 3 (by decide)) lR_3 hi2 dX12_feed_59 (fun σ3 H locs hσ3 hW => ?_)
        have h := h σ3 hσ3
        refine lv_aload_n hx hb dX12_feed_60 rfl (lv_at hl 0 rfl) ?_
        refine lv_dup hx hb dX12_feed_61 rfl ?_
        refine xgX12_6 hx hb hts hown hK hW 0 hcX12_feed_X12 (hI 0 (by decide)) lR_0 (hts _ hwX12_feed_0) dX12_feed_62 ?_
        refine lv_iconst (v := 1) hx hb dX12_feed_65 (by decide) ?_
        refine lv_iadd hx hb dX12_feed_66 ?_
        refine xpX12_6 hx hb hts hown hK hW 0 hcX12_feed_X12 (hI 0 (by decide)) lR_0 (hts _ hwX12_feed_0) dX12_feed_67 (fun σ4 H locs hσ4 hW => ?_)
        have h := h σ4 hσ4
        obtain ⟨v5, hv5⟩ : ∃ y : Int32, y = x4 + (1 : Int32) := ⟨_, rfl⟩
        have h := h v5 hv5
        refine lv_iinc (v := v5) (lv' := [(4, .int v5), (0, .ref (ad 0)), (1, .int x1), (2, .long x2)]) hx hb dX12_feed_70 hl (k := 3) rfl (by rw [hv5]; rfl) (by decide) rfl (fun ls hl => ?_)
        refine lv_goto (tgt := 33) hx hb dX12_feed_73 (by decide) ?_
        exact hk33 v5 _ _ _ _ hW (lv_sub hl [1, 2, 3, 0] rfl) h
  have main : ∀ (H : Heap) (locs : List Loc) (ls : Array Slot), xW D KA layR stR ad ids (xA ad ids s.heap.size) s.heap σ H locs → lv_has ls 5 [(0, .ref (ad 0)), (1, .int a1), (2, .long a2)] → W p l e rmX12_feed s m args below meth c H locs 0 0 Q (F0 m 0 ls []) := by
    intro H locs ls hW hl
    unfold wX12_feed at h
    refine lv_iload_n hx hb dX12_feed_0 rfl (lv_at hl 1 rfl) ?_
    refine lv_i2l hx hb dX12_feed_1 rfl ?_
    refine lv_lconst (v := 1) hx hb dX12_feed_2 (by decide) ?_
    refine lv_ldc2 hx hb hown (hts _ hwX12_feed_3) dX12_feed_3 ?_
    refine x_calli (va_runS (As := [.long (a1.toInt64), .long (1 : Int64), .long (8 : Int64)]) (rest := []) ⟨hx, hb, hml, hown, hts⟩ (J_X12_in l hI h) (va_cwS 3 hts gX12_feed_X12_in rfl rfl rfl hdS_X12_in ⟨Nat.le_of_ble_eq_true rfl, Nat.le_of_ble_eq_true rfl⟩) (x_preS hK hZ hA hW) rfl rfl hl.1 rfl (lv_room (Nat.le_of_ble_eq_true rfl)) dX12_feed_6 ⟨Nat.zero_le _, Nat.zero_le _⟩) hW hA (fun r1002 σ1001 H locs h hW => ?_)
    try dsimp only at h
    refine lv_if_ne (tgt := 15) hx hb dX12_feed_9 (by decide) (fun c1003 => ?_) (fun c1003 => ?_)
    · have h := h.1 c1003
      refine lv_aload_n hx hb dX12_feed_15 rfl (lv_at hl 0 rfl) ?_
      refine xgX12_6 hx hb hts hown hK hW 0 hcX12_feed_X12 (hI 0 (by decide)) lR_0 (hts _ hwX12_feed_0) dX12_feed_16 ?_
      refine lv_iload_n hx hb dX12_feed_19 rfl (lv_at hl 1 rfl) ?_
      refine lv_iadd hx hb dX12_feed_20 ?_
      refine lv_sipush (v := 160) hx hb dX12_feed_21 (by decide) ?_
      refine lv_icmp_le (tgt := 30) hx hb dX12_feed_24 (by decide) (fun c1004 => ?_) (fun c1004 => ?_)
      · have h := h.1 c1004
        refine lv_iconst (v := 0) hx hb dX12_feed_30 (by decide) ?_
        refine lv_istore (lv' := [(4, .int (0 : Int32)), (0, .ref (ad 0)), (1, .int a1), (2, .long a2)]) hx hb dX12_feed_31 hl (by decide) rfl (fun ls hl => ?_)
        obtain ⟨n, h⟩ := h
        exact blk33   a1 a2 n (0 : Int32) _ _ _ _ hW (lv_sub hl [1, 2, 3, 0] rfl) h
      · have h := h.2 c1004
        refine lv_bipush (v := (-4)) hx hb dX12_feed_27 (by decide) ?_
        exact kr _ _ _ _ _ _ hW h dX12_feed_29
    · have h := h.2 c1003
      refine lv_bipush (v := (-2)) hx hb dX12_feed_12 (by decide) ?_
      exact kr _ _ _ _ _ _ hW h dX12_feed_14
  exact main _ _ _ hW hl
theorem hwX12_force_0 : (.fieldLink RX12 142 "FortyBeltsModel" "textCount" "I" : Cond) ∈ wsX12_force := (List.mem_cons_of_mem _ (List.mem_append_left _ (List.mem_of_getElem? (i := 0) rfl)))
theorem hwX12_force_1 : (.fieldLink RX12 236 "FortyBeltsModel" "rule" "I" : Cond) ∈ wsX12_force := (List.mem_cons_of_mem _ (List.mem_append_left _ (List.mem_of_getElem? (i := 1) rfl)))
theorem hcX12_force_X12 : ∀ w ∈ wsX120, w ∈ wsX12_force := fun _ h => (List.mem_cons_of_mem _ (List.mem_append_right _ h))
set_option maxHeartbeats 4000000 in
set_option maxRecDepth 100000 in
theorem J_X12_force {D : va_G} {KA : Nat → ClassId} {zs : ZS} {ad : Nat → Nat} {ids : List Nat} {sz : Nat} (l : Launch) (hI : ∀ c, c < 35 → c ∈ ids) {a1 : Int32}  {σ : St} {post : Int32 → St → Prop} (h : wX12_force  a1 σ post) : Met l yX12_force wsX12_force rmX12_force (va_Pc [.ref (ad 0), .int a1] (xIn D KA zs layR stR ad ids sz σ)) (va_Qi post (xOut D KA layR stR ad ids) (xA ad ids sz)) 0 0 (xA ad ids sz) := by
  refine Met.ofW (cc := cX12_force) (maxL := 3) (ret := (some .int)) (by decide) rfl ?_
  intro p e s m args below meth c s₁ B hml hv
  obtain ⟨hav, hsz, hK, hZ, hP, hD⟩ := hv
  have hx := B.exec
  have hb := B.bytes
  have hr := B.returns
  have hts := atoms_spec (ws := wsX12_force) B.pre
  have hown : s.vm.findClass RX12 = some m.cls := findClass_of_methodNamed B.named
  have hlocks := B.notSynchronized
  subst hsz
  have hA : ∀ q : Nat, s.heap.size ≤ q → xA ad ids s.heap.size q := fun q h => Or.inr h
  have hW : xW D KA layR stR ad ids (xA ad ids s.heap.size) s.heap σ s.heap [] := ⟨hP, xA_D (D := D) hD, va_S.rf⟩
  have kr : ∀ (v : Int32) (σ : St) (H : Heap) (locs : List Loc) (ls : Array Slot) (pc : Nat), xW D KA layR stR ad ids (xA ad ids s.heap.size) s.heap σ H locs → post v σ → decode cX12_force pc = .ok (.ireturn, 1) → W p l e rmX12_force s m args below meth c H locs 0 0 (MQ below (va_Qi post (xOut D KA layR stR ad ids) (xA ad ids s.heap.size)) args s 0 0 (xA ad ids s.heap.size)) (F0 m pc ls [.int v]) := fun v σ H locs ls pc hW h hd => x_iret hx hb hr hlocks hW h hd
  have hl := lv_entry ([.ref (ad 0), .int a1]) (n := 3) (Nat.le_of_ble_eq_true rfl)
  rw [show entryFrame m args 3 = entryFrame m ([.ref (ad 0), .int a1] : List Value).toArray 3 from by rw [hav]]
  rw [lg_entry_eq]
  generalize (lg_sl ([.ref (ad 0), .int a1]) ++ List.replicate (3 - (lg_sl ([.ref (ad 0), .int a1])).length) Slot.unset).toArray = ls at hl ⊢
  have hl : lv_has ls 3 [(0, .ref (ad 0)), (1, .int a1)] := hl
  show W p l e rmX12_force s m args below meth c s.heap [] 0 0 _ _
  generalize MQ below (va_Qi post (xOut D KA layR stR ad ids) (xA ad ids s.heap.size)) args s 0 0 (xA ad ids s.heap.size) = Q at kr ⊢
  have main : ∀ (H : Heap) (locs : List Loc) (ls : Array Slot), xW D KA layR stR ad ids (xA ad ids s.heap.size) s.heap σ H locs → lv_has ls 3 [(0, .ref (ad 0)), (1, .int a1)] → W p l e rmX12_force s m args below meth c H locs 0 0 Q (F0 m 0 ls []) := by
    intro H locs ls hW hl
    unfold wX12_force at h
    refine lv_iload_n hx hb dX12_force_0 rfl (lv_at hl 1 rfl) ?_
    refine lv_i2l hx hb dX12_force_1 rfl ?_
    refine lv_lconst (v := 0) hx hb dX12_force_2 (by decide) ?_
    refine lv_aload_n hx hb dX12_force_3 rfl (lv_at hl 0 rfl) ?_
    refine xgX12_3 hx hb hts hown hK hW 0 hcX12_force_X12 (hI 0 (by decide)) lR_0 (hts _ hwX12_force_0) dX12_force_4 ?_
    refine lv_iconst (v := 1) hx hb dX12_force_7 (by decide) ?_
    refine lv_isub hx hb dX12_force_8 ?_
    refine lv_i2l hx hb dX12_force_9 rfl ?_
    refine x_calli (va_runS (As := [.long (a1.toInt64), .long (0 : Int64), .long (((gI σ 0 3) - (1 : Int32)).toInt64)]) (rest := []) ⟨hx, hb, hml, hown, hts⟩ (J_X12_in l hI h) (va_cwS 3 hts gX12_force_X12_in rfl rfl rfl hdS_X12_in ⟨Nat.le_of_ble_eq_true rfl, Nat.le_of_ble_eq_true rfl⟩) (x_preS hK hZ hA hW) rfl rfl hl.1 rfl (lv_room (Nat.le_of_ble_eq_true rfl)) dX12_force_10 ⟨Nat.zero_le _, Nat.zero_le _⟩) hW hA (fun r1002 σ1001 H locs h hW => ?_)
    try dsimp only at h
    refine lv_if_ne (tgt := 19) hx hb dX12_force_13 (by decide) (fun c1003 => ?_) (fun c1003 => ?_)
    · have h := h.1 c1003
      refine lv_aload_n hx hb dX12_force_19 rfl (lv_at hl 0 rfl) ?_
      refine xgX12_4 hx hb hts hown hK hW 0 hcX12_force_X12 (hI 0 (by decide)) lR_0 (hts _ hwX12_force_1) dX12_force_20 ?_
      refine lv_topi (fun v1004 hv1004 => ?_)
      have h := h v1004 hv1004
      refine lv_istore_n (lv' := [(2, .int v1004), (0, .ref (ad 0)), (1, .int a1)]) hx hb dX12_force_23 rfl hl (by decide) rfl (fun ls hl => ?_)
      refine lv_aload_n hx hb dX12_force_24 rfl (lv_at hl 1 rfl) ?_
      refine lv_iload_n hx hb dX12_force_25 rfl (lv_at hl 2 rfl) ?_
      refine xpX12_4 hx hb hts hown hK hW 0 hcX12_force_X12 (hI 0 (by decide)) lR_0 (hts _ hwX12_force_1) dX12_force_26 (fun σ1005 H locs hσ1005 hW => ?_)
      have h := h σ1005 hσ1005
      refine lv_iload_n hx hb dX12_force_29 rfl (lv_at hl 0 rfl) ?_
      exact kr _ _ _ _ _ _ hW h dX12_force_30
    · have h := h.2 c1003
      refine lv_bipush (v := (-2)) hx hb dX12_force_16 (by decide) ?_
      exact kr _ _ _ _ _ _ hW h dX12_force_18
  exact main _ _ _ hW hl
theorem hwX12_turning_0 : (.fieldLink RX12 160 "FortyBeltsModel" "machines" "I" : Cond) ∈ wsX12_turning := (List.mem_cons_of_mem _ (List.mem_append_left _ (List.mem_append_left _ (List.mem_of_getElem? (i := 0) rfl))))
theorem hwX12_turning_1 : (.fieldLink RX12 81 "FortyBeltsModel" "ways" "[I" : Cond) ∈ wsX12_turning := (List.mem_cons_of_mem _ (List.mem_append_left _ (List.mem_append_left _ (List.mem_of_getElem? (i := 1) rfl))))
theorem hwX12_turning_2 : (.fieldLink RX12 29 "FortyBeltsModel" "shaftOf" "[I" : Cond) ∈ wsX12_turning := (List.mem_cons_of_mem _ (List.mem_append_left _ (List.mem_append_left _ (List.mem_of_getElem? (i := 2) rfl))))
theorem hcX12_turning_X12 : ∀ w ∈ wsX120, w ∈ wsX12_turning := fun _ h => (List.mem_cons_of_mem _ (List.mem_append_right _ h))
set_option maxHeartbeats 4000000 in
set_option maxRecDepth 100000 in
theorem J_X12_turning {D : va_G} {KA : Nat → ClassId} {zs : ZS} {ad : Nat → Nat} {ids : List Nat} {sz : Nat} (l : Launch) (hI : ∀ c, c < 35 → c ∈ ids)   {σ : St} {post : Int32 → St → Prop} (h : wX12_turning   σ post) : Met l yX12_turning wsX12_turning rmX12_turning (va_Pc [.ref (ad 0)] (xIn D KA zs layR stR ad ids sz σ)) (va_Qi post (xOut D KA layR stR ad ids) (xA ad ids sz)) 0 0 (xA ad ids sz) := by
  refine Met.ofW (cc := cX12_turning) (maxL := 3) (ret := (some .int)) (by decide) rfl ?_
  intro p e s m args below meth c s₁ B hml hv
  obtain ⟨hav, hsz, hK, hZ, hP, hD⟩ := hv
  have hx := B.exec
  have hb := B.bytes
  have hr := B.returns
  have hts := atoms_spec (ws := wsX12_turning) B.pre
  have hown : s.vm.findClass RX12 = some m.cls := findClass_of_methodNamed B.named
  have hlocks := B.notSynchronized
  subst hsz
  have hA : ∀ q : Nat, s.heap.size ≤ q → xA ad ids s.heap.size q := fun q h => Or.inr h
  have hW : xW D KA layR stR ad ids (xA ad ids s.heap.size) s.heap σ s.heap [] := ⟨hP, xA_D (D := D) hD, va_S.rf⟩
  have kr : ∀ (v : Int32) (σ : St) (H : Heap) (locs : List Loc) (ls : Array Slot) (pc : Nat), xW D KA layR stR ad ids (xA ad ids s.heap.size) s.heap σ H locs → post v σ → decode cX12_turning pc = .ok (.ireturn, 1) → W p l e rmX12_turning s m args below meth c H locs 0 0 (MQ below (va_Qi post (xOut D KA layR stR ad ids) (xA ad ids s.heap.size)) args s 0 0 (xA ad ids s.heap.size)) (F0 m pc ls [.int v]) := fun v σ H locs ls pc hW h hd => x_iret hx hb hr hlocks hW h hd
  have hl := lv_entry ([.ref (ad 0)]) (n := 3) (Nat.le_of_ble_eq_true rfl)
  rw [show entryFrame m args 3 = entryFrame m ([.ref (ad 0)] : List Value).toArray 3 from by rw [hav]]
  rw [lg_entry_eq]
  generalize (lg_sl ([.ref (ad 0)]) ++ List.replicate (3 - (lg_sl ([.ref (ad 0)])).length) Slot.unset).toArray = ls at hl ⊢
  have hl : lv_has ls 3 [(0, .ref (ad 0))] := hl
  show W p l e rmX12_turning s m args below meth c s.heap [] 0 0 _ _
  generalize MQ below (va_Qi post (xOut D KA layR stR ad ids) (xA ad ids s.heap.size)) args s 0 0 (xA ad ids s.heap.size) = Q at kr ⊢
  have blk38 : ∀ (k8 : Int32 → Int32 → St → Prop) (hk8 : ∀ (x1 : Int32) (x2 : Int32) (σ : St) (H : Heap) (locs : List Loc) (ls : Array Slot), xW D KA layR stR ad ids (xA ad ids s.heap.size) s.heap σ H locs → lv_has ls 3 [(0, .ref (ad 0)), (1, .int x1), (2, .int x2)] → k8 x1 x2 σ → W p l e rmX12_turning s m args below meth c H locs 0 0 Q (F0 m 8 ls [])) (x2 : Int32) (s0 : Int32) (s1 : Int32) (σ : St) (H : Heap) (locs : List Loc) (ls : Array Slot), xW D KA layR stR ad ids (xA ad ids s.heap.size) s.heap σ H locs → lv_has ls 3 [(0, .ref (ad 0)), (2, .int x2)] → wX12_turning_38 k8 post x2 s0 s1 σ → W p l e rmX12_turning s m args below meth c H locs 0 0 Q (F0 m 38 ls [.int s1, .int s0]) := by
    intro  k8 hk8 x2 s0 s1 σ H locs ls hW hl h
    unfold wX12_turning_38 at h
    refine lv_ior hx hb dX12_turning_38 ?_
    refine lv_topi (fun v1 hv1 => ?_)
    have h := h v1 hv1
    refine lv_istore_n (lv' := [(1, .int v1), (0, .ref (ad 0)), (2, .int x2)]) hx hb dX12_turning_39 rfl hl (by decide) rfl (fun ls hl => ?_)
    obtain ⟨v2, hv2⟩ : ∃ y : Int32, y = x2 + (1 : Int32) := ⟨_, rfl⟩
    have h := h v2 hv2
    refine lv_iinc (v := v2) (lv' := [(2, .int v2), (1, .int v1), (0, .ref (ad 0))]) hx hb dX12_turning_40 hl (k := 2) rfl (by rw [hv2]; rfl) (by decide) rfl (fun ls hl => ?_)
    refine lv_goto (tgt := 8) hx hb dX12_turning_43 (by decide) ?_
    exact hk8 v1 v2 _ _ _ _ hW (lv_sub hl [2, 1, 0] rfl) h
  have blk8 : ∀ (n : Nat) (x1 : Int32) (x2 : Int32) (σ : St) (H : Heap) (locs : List Loc) (ls : Array Slot), xW D KA layR stR ad ids (xA ad ids s.heap.size) s.heap σ H locs → lv_has ls 3 [(0, .ref (ad 0)), (1, .int x1), (2, .int x2)] → wX12_turning_8 post  n x1 x2 σ → W p l e rmX12_turning s m args below meth c H locs 0 0 Q (F0 m 8 ls []) := by
    intro    n
    induction n with
    | zero => intro x1 x2 σ H locs ls hW hl h; exact (h : False).elim
    | succ n ih =>
      intro x1 x2 σ H locs ls hW hl h
      have hk8 : ∀ (x1 : Int32) (x2 : Int32) (σ : St) (H : Heap) (locs : List Loc) (ls : Array Slot), xW D KA layR stR ad ids (xA ad ids s.heap.size) s.heap σ H locs → lv_has ls 3 [(0, .ref (ad 0)), (1, .int x1), (2, .int x2)] → (wX12_turning_8 post  n) x1 x2 σ → W p l e rmX12_turning s m args below meth c H locs 0 0 Q (F0 m 8 ls []) := fun x1 x2 σ H locs ls hW hl h => ih x1 x2 σ H locs ls hW hl h
      rw [wX12_turning_8_s] at h
      try dsimp only at h
      generalize wX12_turning_8 post  n = k8 at h hk8
      refine lv_iload_n hx hb dX12_turning_8 rfl (lv_at hl 2 rfl) ?_
      refine lv_aload_n hx hb dX12_turning_9 rfl (lv_at hl 0 rfl) ?_
      refine xgX12_18 hx hb hts hown hK hW 0 hcX12_turning_X12 (hI 0 (by decide)) lR_0 (hts _ hwX12_turning_0) dX12_turning_10 ?_
      refine lv_icmp_ge (tgt := 46) hx hb dX12_turning_13 (by decide) (fun c3 => ?_) (fun c3 => ?_)
      · have h := h.1 c3
        refine lv_iload_n hx hb dX12_turning_46 rfl (lv_at hl 1 rfl) ?_
        exact kr _ _ _ _ _ _ hW h dX12_turning_47
      · have h := h.2 c3
        refine lv_iload_n hx hb dX12_turning_16 rfl (lv_at hl 1 rfl) ?_
        refine lv_aload_n hx hb dX12_turning_17 rfl (lv_at hl 0 rfl) ?_
        refine xgX12_33r hx hb hts hown hK hW 0 hcX12_turning_X12 (hI 0 (by decide)) lR_0 (hts _ hwX12_turning_1) (sR_0_33 _) dX12_turning_18 ?_
        refine lv_aload_n hx hb dX12_turning_21 rfl (lv_at hl 0 rfl) ?_
        refine xgX12_12r hx hb hts hown hK hW 0 hcX12_turning_X12 (hI 0 (by decide)) lR_0 (hts _ hwX12_turning_2) (sR_0_12 _) dX12_turning_22 ?_
        refine lv_iload_n hx hb dX12_turning_25 rfl (lv_at hl 2 rfl) ?_
        obtain ⟨hi4, h⟩ := h
        refine x_iald hx hb hK hW 6 (hI 6 (by decide)) lR_6 hi4 dX12_turning_26 ?_
        obtain ⟨hi5, h⟩ := h
        refine x_iald hx hb hK hW 22 (hI 22 (by decide)) lR_22 hi5 dX12_turning_27 ?_
        refine lv_if_eq (tgt := 37) hx hb dX12_turning_28 (by decide) (fun c6 => ?_) (fun c6 => ?_)
        · have h := h.1 c6
          refine lv_iconst (v := 0) hx hb dX12_turning_37 (by decide) ?_
          exact blk38  k8 hk8 x2 x1 (0 : Int32) _ _ _ _ hW (lv_sub hl [0, 2] rfl) h
        · have h := h.2 c6
          refine lv_iconst (v := 1) hx hb dX12_turning_31 (by decide) ?_
          refine lv_iload_n hx hb dX12_turning_32 rfl (lv_at hl 2 rfl) ?_
          refine lv_ishl hx hb dX12_turning_33 ?_
          refine lv_goto (tgt := 38) hx hb dX12_turning_34 (by decide) ?_
          exact blk38  k8 hk8 x2 x1 ((1 : Int32) <<< (x2 &&& 31)) _ _ _ _ hW (lv_sub hl [0, 2] rfl) h
  have main : ∀ (H : Heap) (locs : List Loc) (ls : Array Slot), xW D KA layR stR ad ids (xA ad ids s.heap.size) s.heap σ H locs → lv_has ls 3 [(0, .ref (ad 0))] → W p l e rmX12_turning s m args below meth c H locs 0 0 Q (F0 m 0 ls []) := by
    intro H locs ls hW hl
    unfold wX12_turning at h
    refine lv_aload_n hx hb dX12_turning_0 rfl (lv_at hl 0 rfl) ?_
    refine x_callv (va_runV (As := []) (rest := []) ⟨hx, hb, hml, hown, hts⟩ (J_X12_lays l hI h) (cwV 0 hts gX12_turning_X12_lays rfl rfl rfl hdV_X12_lays ⟨Nat.le_of_ble_eq_true rfl, Nat.le_of_ble_eq_true rfl⟩) (x_preV (ci := 12) hK hZ hA hW (hI 0 (by decide)) lR_0 rfl) rfl rfl hl.1 rfl (lv_room (Nat.le_of_ble_eq_true rfl)) dX12_turning_1 ⟨Nat.zero_le _, Nat.zero_le _⟩) hW hA (fun σ1001 H locs h hW => ?_)
    try dsimp only at h
    refine lv_iconst (v := 0) hx hb dX12_turning_4 (by decide) ?_
    refine lv_istore_n (lv' := [(1, .int (0 : Int32)), (0, .ref (ad 0))]) hx hb dX12_turning_5 rfl hl (by decide) rfl (fun ls hl => ?_)
    refine lv_iconst (v := 0) hx hb dX12_turning_6 (by decide) ?_
    refine lv_istore_n (lv' := [(2, .int (0 : Int32)), (1, .int (0 : Int32)), (0, .ref (ad 0))]) hx hb dX12_turning_7 rfl hl (by decide) rfl (fun ls hl => ?_)
    obtain ⟨n, h⟩ := h
    exact blk8    n (0 : Int32) (0 : Int32) _ _ _ _ hW (lv_sub hl [2, 1, 0] rfl) h
  exact main _ _ _ hW hl
theorem hwX12_standsBy_0 : (.fieldLink RX12 68 "FortyBeltsModel" "isOn" "[I" : Cond) ∈ wsX12_standsBy := (List.mem_cons_of_mem _ (List.mem_append_left _ (List.mem_append_left _ (List.mem_of_getElem? (i := 0) rfl))))
theorem hcX12_standsBy_X12 : ∀ w ∈ wsX120, w ∈ wsX12_standsBy := fun _ h => (List.mem_cons_of_mem _ (List.mem_append_right _ h))
set_option maxHeartbeats 4000000 in
set_option maxRecDepth 100000 in
theorem J_X12_standsBy {D : va_G} {KA : Nat → ClassId} {zs : ZS} {ad : Nat → Nat} {ids : List Nat} {sz : Nat} (l : Launch) (hI : ∀ c, c < 35 → c ∈ ids) {a1 : Int32}  {σ : St} {post : Int32 → St → Prop} (h : wX12_standsBy  a1 σ post) : Met l yX12_standsBy wsX12_standsBy rmX12_standsBy (va_Pc [.ref (ad 0), .int a1] (xIn D KA zs layR stR ad ids sz σ)) (va_Qi post (xOut D KA layR stR ad ids) (xA ad ids sz)) 0 0 (xA ad ids sz) := by
  refine Met.ofW (cc := cX12_standsBy) (maxL := 5) (ret := (some .int)) (by decide) rfl ?_
  intro p e s m args below meth c s₁ B hml hv
  obtain ⟨hav, hsz, hK, hZ, hP, hD⟩ := hv
  have hx := B.exec
  have hb := B.bytes
  have hr := B.returns
  have hts := atoms_spec (ws := wsX12_standsBy) B.pre
  have hown : s.vm.findClass RX12 = some m.cls := findClass_of_methodNamed B.named
  have hlocks := B.notSynchronized
  subst hsz
  have hA : ∀ q : Nat, s.heap.size ≤ q → xA ad ids s.heap.size q := fun q h => Or.inr h
  have hW : xW D KA layR stR ad ids (xA ad ids s.heap.size) s.heap σ s.heap [] := ⟨hP, xA_D (D := D) hD, va_S.rf⟩
  have kr : ∀ (v : Int32) (σ : St) (H : Heap) (locs : List Loc) (ls : Array Slot) (pc : Nat), xW D KA layR stR ad ids (xA ad ids s.heap.size) s.heap σ H locs → post v σ → decode cX12_standsBy pc = .ok (.ireturn, 1) → W p l e rmX12_standsBy s m args below meth c H locs 0 0 (MQ below (va_Qi post (xOut D KA layR stR ad ids) (xA ad ids s.heap.size)) args s 0 0 (xA ad ids s.heap.size)) (F0 m pc ls [.int v]) := fun v σ H locs ls pc hW h hd => x_iret hx hb hr hlocks hW h hd
  have hl := lv_entry ([.ref (ad 0), .int a1]) (n := 5) (Nat.le_of_ble_eq_true rfl)
  rw [show entryFrame m args 5 = entryFrame m ([.ref (ad 0), .int a1] : List Value).toArray 5 from by rw [hav]]
  rw [lg_entry_eq]
  generalize (lg_sl ([.ref (ad 0), .int a1]) ++ List.replicate (5 - (lg_sl ([.ref (ad 0), .int a1])).length) Slot.unset).toArray = ls at hl ⊢
  have hl : lv_has ls 5 [(0, .ref (ad 0)), (1, .int a1)] := hl
  show W p l e rmX12_standsBy s m args below meth c s.heap [] 0 0 _ _
  generalize MQ below (va_Qi post (xOut D KA layR stR ad ids) (xA ad ids s.heap.size)) args s 0 0 (xA ad ids s.heap.size) = Q at kr ⊢
  have main : ∀ (H : Heap) (locs : List Loc) (ls : Array Slot), xW D KA layR stR ad ids (xA ad ids s.heap.size) s.heap σ H locs → lv_has ls 5 [(0, .ref (ad 0)), (1, .int a1)] → W p l e rmX12_standsBy s m args below meth c H locs 0 0 Q (F0 m 0 ls []) := by
    intro H locs ls hW hl
    unfold wX12_standsBy at h
    refine lv_aload_n hx hb dX12_standsBy_0 rfl (lv_at hl 0 rfl) ?_
    refine x_calli (va_runV (As := []) (rest := []) ⟨hx, hb, hml, hown, hts⟩ (J_X12_turning l hI h) (cwV 0 hts gX12_standsBy_X12_turning rfl rfl rfl hdV_X12_turning ⟨Nat.le_of_ble_eq_true rfl, Nat.le_of_ble_eq_true rfl⟩) (x_preV (ci := 12) hK hZ hA hW (hI 0 (by decide)) lR_0 rfl) rfl rfl hl.1 rfl (lv_room (Nat.le_of_ble_eq_true rfl)) dX12_standsBy_1 ⟨Nat.zero_le _, Nat.zero_le _⟩) hW hA (fun r1002 σ1001 H locs h hW => ?_)
    try dsimp only at h
    refine lv_istore_n (lv' := [(2, .int r1002), (0, .ref (ad 0)), (1, .int a1)]) hx hb dX12_standsBy_4 rfl hl (by decide) rfl (fun ls hl => ?_)
    refine lv_aload_n hx hb dX12_standsBy_5 rfl (lv_at hl 1 rfl) ?_
    refine xgX12_27r hx hb hts hown hK hW 0 hcX12_standsBy_X12 (hI 0 (by decide)) lR_0 (hts _ hwX12_standsBy_0) (sR_0_27 _) dX12_standsBy_6 ?_
    refine lv_iload_n hx hb dX12_standsBy_9 rfl (lv_at hl 2 rfl) ?_
    obtain ⟨hi1003, h⟩ := h
    refine x_iald hx hb hK hW 19 (hI 19 (by decide)) lR_19 hi1003 dX12_standsBy_10 ?_
    refine lv_topi (fun v1004 hv1004 => ?_)
    have h := h v1004 hv1004
    refine lv_istore_n (lv' := [(3, .int v1004), (2, .int r1002), (0, .ref (ad 0)), (1, .int a1)]) hx hb dX12_standsBy_11 rfl hl (by decide) rfl (fun ls hl => ?_)
    refine lv_aload_n hx hb dX12_standsBy_12 rfl (lv_at hl 2 rfl) ?_
    refine xgX12_27r hx hb hts hown hK hW 0 hcX12_standsBy_X12 (hI 0 (by decide)) lR_0 (hts _ hwX12_standsBy_0) (sR_0_27 _) dX12_standsBy_13 ?_
    refine lv_iload_n hx hb dX12_standsBy_16 rfl (lv_at hl 3 rfl) ?_
    refine lv_iconst (v := 0) hx hb dX12_standsBy_17 (by decide) ?_
    refine x_iast hx hb hK hW 19 (hI 19 (by decide)) lR_19 hi1003 dX12_standsBy_18 (fun σ1006 H locs hσ1006 hW => ?_)
    have h := h σ1006 hσ1006
    refine lv_aload_n hx hb dX12_standsBy_19 rfl (lv_at hl 2 rfl) ?_
    refine x_calli (va_runV (As := []) (rest := []) ⟨hx, hb, hml, hown, hts⟩ (J_X12_turning l hI h) (cwV 0 hts gX12_standsBy_X12_turning rfl rfl rfl hdV_X12_turning ⟨Nat.le_of_ble_eq_true rfl, Nat.le_of_ble_eq_true rfl⟩) (x_preV (ci := 12) hK hZ hA hW (hI 0 (by decide)) lR_0 rfl) rfl rfl hl.1 rfl (lv_room (Nat.le_of_ble_eq_true rfl)) dX12_standsBy_20 ⟨Nat.zero_le _, Nat.zero_le _⟩) hW hA (fun r1008 σ1007 H locs h hW => ?_)
    try dsimp only at h
    refine lv_istore (lv' := [(4, .int r1008), (3, .int v1004), (2, .int r1002), (0, .ref (ad 0)), (1, .int a1)]) hx hb dX12_standsBy_23 hl (by decide) rfl (fun ls hl => ?_)
    refine lv_aload_n hx hb dX12_standsBy_25 rfl (lv_at hl 3 rfl) ?_
    refine xgX12_27r hx hb hts hown hK hW 0 hcX12_standsBy_X12 (hI 0 (by decide)) lR_0 (hts _ hwX12_standsBy_0) (sR_0_27 _) dX12_standsBy_26 ?_
    refine lv_iload_n hx hb dX12_standsBy_29 rfl (lv_at hl 4 rfl) ?_
    refine lv_iload_n hx hb dX12_standsBy_30 rfl (lv_at hl 1 rfl) ?_
    refine x_iast hx hb hK hW 19 (hI 19 (by decide)) lR_19 hi1003 dX12_standsBy_31 (fun σ1010 H locs hσ1010 hW => ?_)
    have h := h σ1010 hσ1010
    refine lv_iload_n hx hb dX12_standsBy_32 rfl (lv_at hl 2 rfl) ?_
    refine lv_iload hx hb dX12_standsBy_33 (lv_at hl 0 rfl) ?_
    refine lv_iconst (v := (-1)) hx hb dX12_standsBy_35 (by decide) ?_
    refine lv_ixor hx hb dX12_standsBy_36 ?_
    refine lv_iand hx hb dX12_standsBy_37 ?_
    exact kr _ _ _ _ _ _ hW h dX12_standsBy_38
  exact main _ _ _ hW hl
