theorem hwX12_part_0 : (.fieldLink RX12 316 "FortyBeltsModel" "bad" "Z" : Cond) ∈ wsX12_part := (List.mem_cons_of_mem _ (List.mem_append_left _ (List.mem_append_left _ (List.mem_of_getElem? (i := 0) rfl))))
theorem hcX12_part_X12 : ∀ w ∈ wsX120, w ∈ wsX12_part := fun _ h => (List.mem_cons_of_mem _ (List.mem_append_right _ h))
set_option maxHeartbeats 4000000 in
set_option maxRecDepth 100000 in
theorem J_X12_part {D : va_G} {KA : Nat → ClassId} {zs : ZS} {ad : Nat → Nat} {ids : List Nat} {sz : Nat} (l : Launch) (hI : ∀ c, c < 35 → c ∈ ids) {a1 : Int64}  {σ : St} {post : Int32 → St → Prop} (h : wX12_part  a1 σ post) : Met l yX12_part wsX12_part rmX12_part (va_Pc [.ref (ad 0), .long a1] (xIn D KA zs layR stR ad ids sz σ)) (va_Qi post (xOut D KA layR stR ad ids) (xA ad ids sz)) 0 0 (xA ad ids sz) := by
  refine Met.ofW (cc := cX12_part) (maxL := 4) (ret := (some .int)) (by decide) rfl ?_
  intro p e s m args below meth c s₁ B hml hv
  obtain ⟨hav, hsz, hK, hZ, hP, hD⟩ := hv
  have hx := B.exec
  have hb := B.bytes
  have hr := B.returns
  have hts := atoms_spec (ws := wsX12_part) B.pre
  have hown : s.vm.findClass RX12 = some m.cls := findClass_of_methodNamed B.named
  have hlocks := B.notSynchronized
  subst hsz
  have hA : ∀ q : Nat, s.heap.size ≤ q → xA ad ids s.heap.size q := fun q h => Or.inr h
  have hW : xW D KA layR stR ad ids (xA ad ids s.heap.size) s.heap σ s.heap [] := ⟨hP, xA_D (D := D) hD, va_S.rf⟩
  have kr : ∀ (v : Int32) (σ : St) (H : Heap) (locs : List Loc) (ls : Array Slot) (pc : Nat), xW D KA layR stR ad ids (xA ad ids s.heap.size) s.heap σ H locs → post v σ → decode cX12_part pc = .ok (.ireturn, 1) → W p l e rmX12_part s m args below meth c H locs 0 0 (MQ below (va_Qi post (xOut D KA layR stR ad ids) (xA ad ids s.heap.size)) args s 0 0 (xA ad ids s.heap.size)) (F0 m pc ls [.int v]) := fun v σ H locs ls pc hW h hd => x_iret hx hb hr hlocks hW h hd
  have hl := lv_entry ([.ref (ad 0), .long a1]) (n := 4) (Nat.le_of_ble_eq_true rfl)
  rw [show entryFrame m args 4 = entryFrame m ([.ref (ad 0), .long a1] : List Value).toArray 4 from by rw [hav]]
  rw [lg_entry_eq]
  generalize (lg_sl ([.ref (ad 0), .long a1]) ++ List.replicate (4 - (lg_sl ([.ref (ad 0), .long a1])).length) Slot.unset).toArray = ls at hl ⊢
  have hl : lv_has ls 4 [(0, .ref (ad 0)), (1, .long a1)] := hl
  show W p l e rmX12_part s m args below meth c s.heap [] 0 0 _ _
  generalize MQ below (va_Qi post (xOut D KA layR stR ad ids) (xA ad ids s.heap.size)) args s 0 0 (xA ad ids s.heap.size) = Q at kr ⊢
  have blk63 : ∀ (x3 : Int32) (σ : St) (H : Heap) (locs : List Loc) (ls : Array Slot), xW D KA layR stR ad ids (xA ad ids s.heap.size) s.heap σ H locs → lv_has ls 4 [(3, .int x3)] → wX12_part_63 post x3 σ → W p l e rmX12_part s m args below meth c H locs 0 0 Q (F0 m 63 ls []) := by
    intro   x3 σ H locs ls hW hl h
    unfold wX12_part_63 at h
    refine lv_iload_n hx hb dX12_part_63 rfl (lv_at hl 0 rfl) ?_
    exact kr _ _ _ _ _ _ hW h dX12_part_64
  have blk52 : ∀ (x3 : Int32) (σ : St) (H : Heap) (locs : List Loc) (ls : Array Slot), xW D KA layR stR ad ids (xA ad ids s.heap.size) s.heap σ H locs → lv_has ls 4 [(0, .ref (ad 0)), (3, .int x3)] → wX12_part_52 post x3 σ → W p l e rmX12_part s m args below meth c H locs 0 0 Q (F0 m 52 ls []) := by
    intro   x3 σ H locs ls hW hl h
    unfold wX12_part_52 at h
    refine lv_aload_n hx hb dX12_part_52 rfl (lv_at hl 0 rfl) ?_
    refine xgX12_43 hx hb hts hown hK hW 0 hcX12_part_X12 (hI 0 (by decide)) lR_0 (hts _ hwX12_part_0) dX12_part_53 ?_
    refine lv_if_ne (tgt := 63) hx hb dX12_part_56 (by decide) (fun c1 => ?_) (fun c1 => ?_)
    · have h := h.1 c1
      exact blk63   x3 _ _ _ _ hW (lv_sub hl [1] rfl) h
    · have h := h.2 c1
      refine lv_aload_n hx hb dX12_part_59 rfl (lv_at hl 0 rfl) ?_
      refine x_callv (va_runV (As := []) (rest := []) ⟨hx, hb, hml, hown, hts⟩ (J_X12_next l hI h) (cwV 0 hts gX12_part_X12_next rfl rfl rfl hdV_X12_next ⟨Nat.le_of_ble_eq_true rfl, Nat.le_of_ble_eq_true rfl⟩) (x_preV (ci := 12) hK hZ hA hW (hI 0 (by decide)) lR_0 rfl) rfl rfl hl.1 rfl (lv_room (Nat.le_of_ble_eq_true rfl)) dX12_part_60 ⟨Nat.zero_le _, Nat.zero_le _⟩) hW hA (fun σ2 H locs h hW => ?_)
      try dsimp only at h
      exact blk63   x3 _ _ _ _ hW (lv_sub hl [1] rfl) h
  have blk38 : ∀ (s0 : Int32) (σ : St) (H : Heap) (locs : List Loc) (ls : Array Slot), xW D KA layR stR ad ids (xA ad ids s.heap.size) s.heap σ H locs → lv_has ls 4 [(0, .ref (ad 0))] → wX12_part_38 post s0 σ → W p l e rmX12_part s m args below meth c H locs 0 0 Q (F0 m 38 ls [.int s0]) := by
    intro   s0 σ H locs ls hW hl h
    unfold wX12_part_38 at h
    refine lv_istore_n (lv' := [(3, .int s0), (0, .ref (ad 0))]) hx hb dX12_part_38 rfl hl (by decide) rfl (fun ls hl => ?_)
    refine lv_aload_n hx hb dX12_part_39 rfl (lv_at hl 1 rfl) ?_
    refine lv_bipush (v := 59) hx hb dX12_part_40 (by decide) ?_
    refine x_calli (va_runV (As := [.int (59 : Int32)]) (rest := []) ⟨hx, hb, hml, hown, hts⟩ (J_X12_isSign l hI h) (cwV 1 hts gX12_part_X12_isSign rfl rfl rfl hdV_X12_isSign ⟨Nat.le_of_ble_eq_true rfl, Nat.le_of_ble_eq_true rfl⟩) (x_preV (ci := 12) hK hZ hA hW (hI 0 (by decide)) lR_0 rfl) rfl rfl hl.1 rfl (lv_room (Nat.le_of_ble_eq_true rfl)) dX12_part_42 ⟨Nat.zero_le _, Nat.zero_le _⟩) hW hA (fun r4 σ3 H locs h hW => ?_)
    try dsimp only at h
    refine lv_if_ne (tgt := 52) hx hb dX12_part_45 (by decide) (fun c5 => ?_) (fun c5 => ?_)
    · have h := h.1 c5
      exact blk52   s0 _ _ _ _ hW (lv_sub hl [1, 0] rfl) h
    · have h := h.2 c5
      refine lv_aload_n hx hb dX12_part_48 rfl (lv_at hl 1 rfl) ?_
      refine x_callv (va_runV (As := []) (rest := []) ⟨hx, hb, hml, hown, hts⟩ (J_X12_fail l hI h) (cwV 0 hts gX12_part_X12_fail rfl rfl rfl hdV_X12_fail ⟨Nat.le_of_ble_eq_true rfl, Nat.le_of_ble_eq_true rfl⟩) (x_preV (ci := 12) hK hZ hA hW (hI 0 (by decide)) lR_0 rfl) rfl rfl hl.1 rfl (lv_room (Nat.le_of_ble_eq_true rfl)) dX12_part_49 ⟨Nat.zero_le _, Nat.zero_le _⟩) hW hA (fun σ6 H locs h hW => ?_)
      try dsimp only at h
      exact blk52   s0 _ _ _ _ hW (lv_sub hl [1, 0] rfl) h
  have blk23 : ∀ (σ : St) (H : Heap) (locs : List Loc) (ls : Array Slot), xW D KA layR stR ad ids (xA ad ids s.heap.size) s.heap σ H locs → lv_has ls 4 [(0, .ref (ad 0))] → wX12_part_23 post  σ → W p l e rmX12_part s m args below meth c H locs 0 0 Q (F0 m 23 ls []) := by
    intro    σ H locs ls hW hl h
    unfold wX12_part_23 at h
    refine lv_aload_n hx hb dX12_part_23 rfl (lv_at hl 0 rfl) ?_
    refine xgX12_43 hx hb hts hown hK hW 0 hcX12_part_X12 (hI 0 (by decide)) lR_0 (hts _ hwX12_part_0) dX12_part_24 ?_
    refine lv_if_eq (tgt := 34) hx hb dX12_part_27 (by decide) (fun c7 => ?_) (fun c7 => ?_)
    · have h := h.1 c7
      refine lv_aload_n hx hb dX12_part_34 rfl (lv_at hl 0 rfl) ?_
      refine x_calli (va_runV (As := []) (rest := []) ⟨hx, hb, hml, hown, hts⟩ (JGR_0 l hI h) (cwV 0 hts gX12_part_X12_either rfl rfl rfl hdV_X12_either ⟨Nat.le_of_ble_eq_true rfl, Nat.le_of_ble_eq_true rfl⟩) (x_preV (ci := 12) hK hZ hA hW (hI 0 (by decide)) lR_0 rfl) rfl rfl hl.1 rfl (lv_room (Nat.le_of_ble_eq_true rfl)) dX12_part_35 ⟨Nat.zero_le _, Nat.zero_le _⟩) hW hA (fun r9 σ8 H locs h hW => ?_)
      try dsimp only at h
      exact blk38   r9 _ _ _ _ hW (lv_sub hl [0] rfl) h
    · have h := h.2 c7
      refine lv_iconst (v := 0) hx hb dX12_part_30 (by decide) ?_
      refine lv_goto (tgt := 38) hx hb dX12_part_31 (by decide) ?_
      exact blk38   (0 : Int32) _ _ _ _ hW (lv_sub hl [0] rfl) h
  have blk12 : ∀ (σ : St) (H : Heap) (locs : List Loc) (ls : Array Slot), xW D KA layR stR ad ids (xA ad ids s.heap.size) s.heap σ H locs → lv_has ls 4 [(0, .ref (ad 0))] → wX12_part_12 post  σ → W p l e rmX12_part s m args below meth c H locs 0 0 Q (F0 m 12 ls []) := by
    intro    σ H locs ls hW hl h
    unfold wX12_part_12 at h
    refine lv_aload_n hx hb dX12_part_12 rfl (lv_at hl 0 rfl) ?_
    refine xgX12_43 hx hb hts hown hK hW 0 hcX12_part_X12 (hI 0 (by decide)) lR_0 (hts _ hwX12_part_0) dX12_part_13 ?_
    refine lv_if_ne (tgt := 23) hx hb dX12_part_16 (by decide) (fun c10 => ?_) (fun c10 => ?_)
    · have h := h.1 c10
      exact blk23    _ _ _ _ hW (lv_sub hl [0] rfl) h
    · have h := h.2 c10
      refine lv_aload_n hx hb dX12_part_19 rfl (lv_at hl 0 rfl) ?_
      refine x_callv (va_runV (As := []) (rest := []) ⟨hx, hb, hml, hown, hts⟩ (J_X12_next l hI h) (cwV 0 hts gX12_part_X12_next rfl rfl rfl hdV_X12_next ⟨Nat.le_of_ble_eq_true rfl, Nat.le_of_ble_eq_true rfl⟩) (x_preV (ci := 12) hK hZ hA hW (hI 0 (by decide)) lR_0 rfl) rfl rfl hl.1 rfl (lv_room (Nat.le_of_ble_eq_true rfl)) dX12_part_20 ⟨Nat.zero_le _, Nat.zero_le _⟩) hW hA (fun σ11 H locs h hW => ?_)
      try dsimp only at h
      exact blk23    _ _ _ _ hW (lv_sub hl [0] rfl) h
  have main : ∀ (H : Heap) (locs : List Loc) (ls : Array Slot), xW D KA layR stR ad ids (xA ad ids s.heap.size) s.heap σ H locs → lv_has ls 4 [(0, .ref (ad 0)), (1, .long a1)] → W p l e rmX12_part s m args below meth c H locs 0 0 Q (F0 m 0 ls []) := by
    intro H locs ls hW hl
    unfold wX12_part at h
    refine lv_aload_n hx hb dX12_part_0 rfl (lv_at hl 0 rfl) ?_
    refine lv_lload_n hx hb dX12_part_1 rfl (lv_at hl 1 rfl) ?_
    refine x_calli (va_runV (As := [.long a1]) (rest := []) ⟨hx, hb, hml, hown, hts⟩ (J_X12_isWord l hI h) (cwV 1 hts gX12_part_X12_isWord rfl rfl rfl hdV_X12_isWord ⟨Nat.le_of_ble_eq_true rfl, Nat.le_of_ble_eq_true rfl⟩) (x_preV (ci := 12) hK hZ hA hW (hI 0 (by decide)) lR_0 rfl) rfl rfl hl.1 rfl (lv_room (Nat.le_of_ble_eq_true rfl)) dX12_part_2 ⟨Nat.zero_le _, Nat.zero_le _⟩) hW hA (fun r1002 σ1001 H locs h hW => ?_)
    try dsimp only at h
    refine lv_if_ne (tgt := 12) hx hb dX12_part_5 (by decide) (fun c1003 => ?_) (fun c1003 => ?_)
    · have h := h.1 c1003
      exact blk12    _ _ _ _ hW (lv_sub hl [0] rfl) h
    · have h := h.2 c1003
      refine lv_aload_n hx hb dX12_part_8 rfl (lv_at hl 0 rfl) ?_
      refine x_callv (va_runV (As := []) (rest := []) ⟨hx, hb, hml, hown, hts⟩ (J_X12_fail l hI h) (cwV 0 hts gX12_part_X12_fail rfl rfl rfl hdV_X12_fail ⟨Nat.le_of_ble_eq_true rfl, Nat.le_of_ble_eq_true rfl⟩) (x_preV (ci := 12) hK hZ hA hW (hI 0 (by decide)) lR_0 rfl) rfl rfl hl.1 rfl (lv_room (Nat.le_of_ble_eq_true rfl)) dX12_part_9 ⟨Nat.zero_le _, Nat.zero_le _⟩) hW hA (fun σ1004 H locs h hW => ?_)
      try dsimp only at h
      exact blk12    _ _ _ _ hW (lv_sub hl [0] rfl) h
  exact main _ _ _ hW hl
theorem hwX12_read_0 : (.fieldLink RX12 316 "FortyBeltsModel" "bad" "Z" : Cond) ∈ wsX12_read := (List.mem_cons_of_mem _ (List.mem_append_left _ (List.mem_append_left _ (List.mem_of_getElem? (i := 11) rfl))))
theorem hwX12_read_1 : (.fieldLink RX12 293 "FortyBeltsModel" "token" "I" : Cond) ∈ wsX12_read := (List.mem_cons_of_mem _ (List.mem_append_left _ (List.mem_append_left _ (List.mem_of_getElem? (i := 15) rfl))))
theorem hwX12_read_2 : (.constantLong RX12 412 (453836) : Cond) ∈ wsX12_read := (List.mem_cons_of_mem _ (List.mem_append_left _ (List.mem_append_left _ (List.mem_of_getElem? (i := 14) rfl))))
theorem hwX12_read_3 : (.fieldLink RX12 338 "FortyBeltsModel" "aboutKind" "I" : Cond) ∈ wsX12_read := (List.mem_cons_of_mem _ (List.mem_append_left _ (List.mem_append_left _ (List.mem_of_getElem? (i := 0) rfl))))
theorem hwX12_read_4 : (.fieldLink RX12 343 "FortyBeltsModel" "aboutTurns" "I" : Cond) ∈ wsX12_read := (List.mem_cons_of_mem _ (List.mem_append_left _ (List.mem_append_left _ (List.mem_of_getElem? (i := 1) rfl))))
theorem hwX12_read_5 : (.fieldLink RX12 348 "FortyBeltsModel" "aboutWrap" "I" : Cond) ∈ wsX12_read := (List.mem_cons_of_mem _ (List.mem_append_left _ (List.mem_append_left _ (List.mem_of_getElem? (i := 2) rfl))))
theorem hwX12_read_6 : (.fieldLink RX12 353 "FortyBeltsModel" "aboutLoad" "I" : Cond) ∈ wsX12_read := (List.mem_cons_of_mem _ (List.mem_append_left _ (List.mem_append_left _ (List.mem_of_getElem? (i := 3) rfl))))
theorem hwX12_read_7 : (.fieldLink RX12 358 "FortyBeltsModel" "aboutSize" "I" : Cond) ∈ wsX12_read := (List.mem_cons_of_mem _ (List.mem_append_left _ (List.mem_append_left _ (List.mem_of_getElem? (i := 4) rfl))))
theorem hwX12_read_8 : (.fieldLink RX12 363 "FortyBeltsModel" "aboutHours" "I" : Cond) ∈ wsX12_read := (List.mem_cons_of_mem _ (List.mem_append_left _ (List.mem_append_left _ (List.mem_of_getElem? (i := 5) rfl))))
theorem hwX12_read_9 : (.fieldLink RX12 281 "FortyBeltsModel" "textFrom" "I" : Cond) ∈ wsX12_read := (List.mem_cons_of_mem _ (List.mem_append_left _ (List.mem_append_left _ (List.mem_of_getElem? (i := 6) rfl))))
theorem hwX12_read_10 : (.fieldLink RX12 17 "FortyBeltsModel" "textSize" "[I" : Cond) ∈ wsX12_read := (List.mem_cons_of_mem _ (List.mem_append_left _ (List.mem_append_left _ (List.mem_of_getElem? (i := 7) rfl))))
theorem hwX12_read_11 : (.fieldLink RX12 278 "FortyBeltsModel" "size" "I" : Cond) ∈ wsX12_read := (List.mem_cons_of_mem _ (List.mem_append_left _ (List.mem_append_left _ (List.mem_of_getElem? (i := 8) rfl))))
theorem hwX12_read_12 : (.fieldLink RX12 284 "FortyBeltsModel" "here" "I" : Cond) ∈ wsX12_read := (List.mem_cons_of_mem _ (List.mem_append_left _ (List.mem_append_left _ (List.mem_of_getElem? (i := 9) rfl))))
theorem hwX12_read_13 : (.fieldLink RX12 323 "FortyBeltsModel" "open" "I" : Cond) ∈ wsX12_read := (List.mem_cons_of_mem _ (List.mem_append_left _ (List.mem_append_left _ (List.mem_of_getElem? (i := 10) rfl))))
theorem hwX12_read_14 : (.constantLong RX12 404 (456399) : Cond) ∈ wsX12_read := (List.mem_cons_of_mem _ (List.mem_append_left _ (List.mem_append_left _ (List.mem_of_getElem? (i := 12) rfl))))
theorem hwX12_read_15 : (.constantLong RX12 410 (262822) : Cond) ∈ wsX12_read := (List.mem_cons_of_mem _ (List.mem_append_left _ (List.mem_append_left _ (List.mem_of_getElem? (i := 13) rfl))))
theorem hcX12_read_X12 : ∀ w ∈ wsX120, w ∈ wsX12_read := fun _ h => (List.mem_cons_of_mem _ (List.mem_append_right _ h))
set_option maxHeartbeats 4000000 in
set_option maxRecDepth 100000 in
theorem J_X12_read {D : va_G} {KA : Nat → ClassId} {zs : ZS} {ad : Nat → Nat} {ids : List Nat} {sz : Nat} (l : Launch) (hI : ∀ c, c < 35 → c ∈ ids) {a1 : Int32} {a2 : Int32} {a3 : Int32} {a4 : Int32} {a5 : Int32} {a6 : Int32} {a7 : Int32} {a8 : Int32}  {σ : St} {post : Int32 → St → Prop} (h : wX12_read  a1 a2 a3 a4 a5 a6 a7 a8 σ post) : Met l yX12_read wsX12_read rmX12_read (va_Pc [.ref (ad 0), .int a1, .int a2, .int a3, .int a4, .int a5, .int a6, .int a7, .int a8] (xIn D KA zs layR stR ad ids sz σ)) (va_Qi post (xOut D KA layR stR ad ids) (xA ad ids sz)) 0 0 (xA ad ids sz) := by
  refine Met.ofW (cc := cX12_read) (maxL := 12) (ret := (some .int)) (by decide) rfl ?_
  intro p e s m args below meth c s₁ B hml hv
  obtain ⟨hav, hsz, hK, hZ, hP, hD⟩ := hv
  have hx := B.exec
  have hb := B.bytes
  have hr := B.returns
  have hts := atoms_spec (ws := wsX12_read) B.pre
  have hown : s.vm.findClass RX12 = some m.cls := findClass_of_methodNamed B.named
  have hlocks := B.notSynchronized
  subst hsz
  have hA : ∀ q : Nat, s.heap.size ≤ q → xA ad ids s.heap.size q := fun q h => Or.inr h
  have hW : xW D KA layR stR ad ids (xA ad ids s.heap.size) s.heap σ s.heap [] := ⟨hP, xA_D (D := D) hD, va_S.rf⟩
  have kr : ∀ (v : Int32) (σ : St) (H : Heap) (locs : List Loc) (ls : Array Slot) (pc : Nat), xW D KA layR stR ad ids (xA ad ids s.heap.size) s.heap σ H locs → post v σ → decode cX12_read pc = .ok (.ireturn, 1) → W p l e rmX12_read s m args below meth c H locs 0 0 (MQ below (va_Qi post (xOut D KA layR stR ad ids) (xA ad ids s.heap.size)) args s 0 0 (xA ad ids s.heap.size)) (F0 m pc ls [.int v]) := fun v σ H locs ls pc hW h hd => x_iret hx hb hr hlocks hW h hd
  have hl := lv_entry ([.ref (ad 0), .int a1, .int a2, .int a3, .int a4, .int a5, .int a6, .int a7, .int a8]) (n := 12) (Nat.le_of_ble_eq_true rfl)
  rw [show entryFrame m args 12 = entryFrame m ([.ref (ad 0), .int a1, .int a2, .int a3, .int a4, .int a5, .int a6, .int a7, .int a8] : List Value).toArray 12 from by rw [hav]]
  rw [lg_entry_eq]
  generalize (lg_sl ([.ref (ad 0), .int a1, .int a2, .int a3, .int a4, .int a5, .int a6, .int a7, .int a8]) ++ List.replicate (12 - (lg_sl ([.ref (ad 0), .int a1, .int a2, .int a3, .int a4, .int a5, .int a6, .int a7, .int a8])).length) Slot.unset).toArray = ls at hl ⊢
  have hl : lv_has ls 12 [(0, .ref (ad 0)), (1, .int a1), (2, .int a2), (3, .int a3), (4, .int a4), (5, .int a5), (6, .int a6), (7, .int a7), (8, .int a8)] := hl
  show W p l e rmX12_read s m args below meth c s.heap [] 0 0 _ _
  generalize MQ below (va_Qi post (xOut D KA layR stR ad ids) (xA ad ids s.heap.size)) args s 0 0 (xA ad ids s.heap.size) = Q at kr ⊢
  have blk162 : ∀ (s0 : Int32) (σ : St) (H : Heap) (locs : List Loc) (ls : Array Slot), xW D KA layR stR ad ids (xA ad ids s.heap.size) s.heap σ H locs → lv_has ls 12 [] → wX12_read_162 post s0 σ → W p l e rmX12_read s m args below meth c H locs 0 0 Q (F0 m 162 ls [.int s0]) := by
    intro   s0 σ H locs ls hW hl h
    unfold wX12_read_162 at h
    exact kr _ _ _ _ _ _ hW h dX12_read_162
  have blk139 : ∀ (x8 : Int32) (x9 : Int32) (x10 : Int32) (x11 : Int32) (σ : St) (H : Heap) (locs : List Loc) (ls : Array Slot), xW D KA layR stR ad ids (xA ad ids s.heap.size) s.heap σ H locs → lv_has ls 12 [(8, .int x8), (9, .int x9), (10, .int x10), (11, .int x11)] → wX12_read_139 post x8 x9 x10 x11 σ → W p l e rmX12_read s m args below meth c H locs 0 0 Q (F0 m 139 ls []) := by
    intro   x8 x9 x10 x11 σ H locs ls hW hl h
    unfold wX12_read_139 at h
    refine lv_iload hx hb dX12_read_139 (lv_at hl 0 rfl) ?_
    refine lv_if_ne (tgt := 149) hx hb dX12_read_141 (by decide) (fun c1 => ?_) (fun c1 => ?_)
    · have h := h.1 c1
      refine lv_iload hx hb dX12_read_149 (lv_at hl 0 rfl) ?_
      refine lv_iconst (v := 1) hx hb dX12_read_151 (by decide) ?_
      refine lv_icmp_ne (tgt := 160) hx hb dX12_read_152 (by decide) (fun c2 => ?_) (fun c2 => ?_)
      · have h := h.1 c2
        refine lv_iload hx hb dX12_read_160 (lv_at hl 3 rfl) ?_
        exact blk162   x11 _ _ _ _ hW (lv_sub hl [] rfl) h
      · have h := h.2 c2
        refine lv_iload hx hb dX12_read_155 (lv_at hl 2 rfl) ?_
        refine lv_goto (tgt := 162) hx hb dX12_read_157 (by decide) ?_
        exact blk162   x10 _ _ _ _ hW (lv_sub hl [] rfl) h
    · have h := h.2 c1
      refine lv_iload hx hb dX12_read_144 (lv_at hl 1 rfl) ?_
      refine lv_goto (tgt := 162) hx hb dX12_read_146 (by decide) ?_
      exact blk162   x9 _ _ _ _ hW (lv_sub hl [] rfl) h
  have blk119 : ∀ (x8 : Int32) (x9 : Int32) (x10 : Int32) (s0 : Int32) (σ : St) (H : Heap) (locs : List Loc) (ls : Array Slot), xW D KA layR stR ad ids (xA ad ids s.heap.size) s.heap σ H locs → lv_has ls 12 [(0, .ref (ad 0)), (8, .int x8), (9, .int x9), (10, .int x10)] → wX12_read_119 post x8 x9 x10 s0 σ → W p l e rmX12_read s m args below meth c H locs 0 0 Q (F0 m 119 ls [.int s0]) := by
    intro   x8 x9 x10 s0 σ H locs ls hW hl h
    unfold wX12_read_119 at h
    refine lv_istore (lv' := [(11, .int s0), (0, .ref (ad 0)), (8, .int x8), (9, .int x9), (10, .int x10)]) hx hb dX12_read_119 hl (by decide) rfl (fun ls hl => ?_)
    refine lv_aload_n hx hb dX12_read_121 rfl (lv_at hl 1 rfl) ?_
    refine xgX12_43 hx hb hts hown hK hW 0 hcX12_read_X12 (hI 0 (by decide)) lR_0 (hts _ hwX12_read_0) dX12_read_122 ?_
    refine lv_if_ne (tgt := 139) hx hb dX12_read_125 (by decide) (fun c3 => ?_) (fun c3 => ?_)
    · have h := h.1 c3
      exact blk139   x8 x9 x10 s0 _ _ _ _ hW (lv_sub hl [2, 3, 4, 0] rfl) h
    · have h := h.2 c3
      refine lv_aload_n hx hb dX12_read_128 rfl (lv_at hl 1 rfl) ?_
      refine xgX12_38 hx hb hts hown hK hW 0 hcX12_read_X12 (hI 0 (by decide)) lR_0 (hts _ hwX12_read_1) dX12_read_129 ?_
      refine lv_if_eq (tgt := 139) hx hb dX12_read_132 (by decide) (fun c4 => ?_) (fun c4 => ?_)
      · have h := h.1 c4
        exact blk139   x8 x9 x10 s0 _ _ _ _ hW (lv_sub hl [2, 3, 4, 0] rfl) h
      · have h := h.2 c4
        refine lv_aload_n hx hb dX12_read_135 rfl (lv_at hl 1 rfl) ?_
        refine x_callv (va_runV (As := []) (rest := []) ⟨hx, hb, hml, hown, hts⟩ (J_X12_fail l hI h) (cwV 0 hts gX12_read_X12_fail rfl rfl rfl hdV_X12_fail ⟨Nat.le_of_ble_eq_true rfl, Nat.le_of_ble_eq_true rfl⟩) (x_preV (ci := 12) hK hZ hA hW (hI 0 (by decide)) lR_0 rfl) rfl rfl hl.1 rfl (lv_room (Nat.le_of_ble_eq_true rfl)) dX12_read_136 ⟨Nat.zero_le _, Nat.zero_le _⟩) hW hA (fun σ5 H locs h hW => ?_)
        try dsimp only at h
        exact blk139   x8 x9 x10 s0 _ _ _ _ hW (lv_sub hl [2, 3, 4, 0] rfl) h
  have blk99 : ∀ (x8 : Int32) (x9 : Int32) (s0 : Int32) (σ : St) (H : Heap) (locs : List Loc) (ls : Array Slot), xW D KA layR stR ad ids (xA ad ids s.heap.size) s.heap σ H locs → lv_has ls 12 [(0, .ref (ad 0)), (8, .int x8), (9, .int x9)] → wX12_read_99 post x8 x9 s0 σ → W p l e rmX12_read s m args below meth c H locs 0 0 Q (F0 m 99 ls [.int s0]) := by
    intro   x8 x9 s0 σ H locs ls hW hl h
    unfold wX12_read_99 at h
    refine lv_istore (lv' := [(10, .int s0), (0, .ref (ad 0)), (8, .int x8), (9, .int x9)]) hx hb dX12_read_99 hl (by decide) rfl (fun ls hl => ?_)
    refine lv_aload_n hx hb dX12_read_101 rfl (lv_at hl 1 rfl) ?_
    refine xgX12_43 hx hb hts hown hK hW 0 hcX12_read_X12 (hI 0 (by decide)) lR_0 (hts _ hwX12_read_0) dX12_read_102 ?_
    refine lv_if_eq (tgt := 112) hx hb dX12_read_105 (by decide) (fun c6 => ?_) (fun c6 => ?_)
    · have h := h.1 c6
      refine lv_aload_n hx hb dX12_read_112 rfl (lv_at hl 1 rfl) ?_
      refine lv_ldc2 hx hb hown (hts _ hwX12_read_2) dX12_read_113 ?_
      refine x_calli (va_runV (As := [.long (453836 : Int64)]) (rest := []) ⟨hx, hb, hml, hown, hts⟩ (J_X12_part l hI h) (cwV 1 hts gX12_read_X12_part rfl rfl rfl hdV_X12_part ⟨Nat.le_of_ble_eq_true rfl, Nat.le_of_ble_eq_true rfl⟩) (x_preV (ci := 12) hK hZ hA hW (hI 0 (by decide)) lR_0 rfl) rfl rfl hl.1 rfl (lv_room (Nat.le_of_ble_eq_true rfl)) dX12_read_116 ⟨Nat.zero_le _, Nat.zero_le _⟩) hW hA (fun r8 σ7 H locs h hW => ?_)
      try dsimp only at h
      exact blk119   x8 x9 s0 r8 _ _ _ _ hW (lv_sub hl [1, 2, 3, 0] rfl) h
    · have h := h.2 c6
      refine lv_iconst (v := 0) hx hb dX12_read_108 (by decide) ?_
      refine lv_goto (tgt := 119) hx hb dX12_read_109 (by decide) ?_
      exact blk119   x8 x9 s0 (0 : Int32) _ _ _ _ hW (lv_sub hl [1, 2, 3, 0] rfl) h
  have main : ∀ (H : Heap) (locs : List Loc) (ls : Array Slot), xW D KA layR stR ad ids (xA ad ids s.heap.size) s.heap σ H locs → lv_has ls 12 [(0, .ref (ad 0)), (1, .int a1), (2, .int a2), (3, .int a3), (4, .int a4), (5, .int a5), (6, .int a6), (7, .int a7), (8, .int a8)] → W p l e rmX12_read s m args below meth c H locs 0 0 Q (F0 m 0 ls []) := by
    intro H locs ls hW hl
    unfold wX12_read at h
    refine lv_aload_n hx hb dX12_read_0 rfl (lv_at hl 0 rfl) ?_
    refine lv_iload_n hx hb dX12_read_1 rfl (lv_at hl 2 rfl) ?_
    refine xpX12_45 hx hb hts hown hK hW 0 hcX12_read_X12 (hI 0 (by decide)) lR_0 (hts _ hwX12_read_3) dX12_read_2 (fun σ1001 H locs hσ1001 hW => ?_)
    have h := h σ1001 hσ1001
    refine lv_aload_n hx hb dX12_read_5 rfl (lv_at hl 0 rfl) ?_
    refine lv_iload_n hx hb dX12_read_6 rfl (lv_at hl 3 rfl) ?_
    refine xpX12_46 hx hb hts hown hK hW 0 hcX12_read_X12 (hI 0 (by decide)) lR_0 (hts _ hwX12_read_4) dX12_read_7 (fun σ1002 H locs hσ1002 hW => ?_)
    have h := h σ1002 hσ1002
    refine lv_aload_n hx hb dX12_read_10 rfl (lv_at hl 0 rfl) ?_
    refine lv_iload hx hb dX12_read_11 (lv_at hl 4 rfl) ?_
    refine xpX12_47 hx hb hts hown hK hW 0 hcX12_read_X12 (hI 0 (by decide)) lR_0 (hts _ hwX12_read_5) dX12_read_13 (fun σ1003 H locs hσ1003 hW => ?_)
    have h := h σ1003 hσ1003
    refine lv_aload_n hx hb dX12_read_16 rfl (lv_at hl 0 rfl) ?_
    refine lv_iload hx hb dX12_read_17 (lv_at hl 5 rfl) ?_
    refine xpX12_48 hx hb hts hown hK hW 0 hcX12_read_X12 (hI 0 (by decide)) lR_0 (hts _ hwX12_read_6) dX12_read_19 (fun σ1004 H locs hσ1004 hW => ?_)
    have h := h σ1004 hσ1004
    refine lv_aload_n hx hb dX12_read_22 rfl (lv_at hl 0 rfl) ?_
    refine lv_iload hx hb dX12_read_23 (lv_at hl 6 rfl) ?_
    refine xpX12_49 hx hb hts hown hK hW 0 hcX12_read_X12 (hI 0 (by decide)) lR_0 (hts _ hwX12_read_7) dX12_read_25 (fun σ1005 H locs hσ1005 hW => ?_)
    have h := h σ1005 hσ1005
    refine lv_aload_n hx hb dX12_read_28 rfl (lv_at hl 0 rfl) ?_
    refine lv_iload hx hb dX12_read_29 (lv_at hl 7 rfl) ?_
    refine xpX12_50 hx hb hts hown hK hW 0 hcX12_read_X12 (hI 0 (by decide)) lR_0 (hts _ hwX12_read_8) dX12_read_31 (fun σ1006 H locs hσ1006 hW => ?_)
    have h := h σ1006 hσ1006
    refine lv_aload_n hx hb dX12_read_34 rfl (lv_at hl 0 rfl) ?_
    refine lv_sipush (v := 160) hx hb dX12_read_35 (by decide) ?_
    refine lv_iload_n hx hb dX12_read_38 rfl (lv_at hl 1 rfl) ?_
    refine lv_imul hx hb dX12_read_39 ?_
    refine xpX12_36 hx hb hts hown hK hW 0 hcX12_read_X12 (hI 0 (by decide)) lR_0 (hts _ hwX12_read_9) dX12_read_40 (fun σ1007 H locs hσ1007 hW => ?_)
    have h := h σ1007 hσ1007
    refine lv_aload_n hx hb dX12_read_43 rfl (lv_at hl 0 rfl) ?_
    refine lv_aload_n hx hb dX12_read_44 rfl (lv_at hl 0 rfl) ?_
    refine xgX12_2r hx hb hts hown hK hW 0 hcX12_read_X12 (hI 0 (by decide)) lR_0 (hts _ hwX12_read_10) (sR_0_2 _) dX12_read_45 ?_
    refine lv_iload_n hx hb dX12_read_48 rfl (lv_at hl 1 rfl) ?_
    obtain ⟨hi1008, h⟩ := h
    refine x_iald hx hb hK hW 2 (hI 2 (by decide)) lR_2 hi1008 dX12_read_49 ?_
    refine xpX12_37 hx hb hts hown hK hW 0 hcX12_read_X12 (hI 0 (by decide)) lR_0 (hts _ hwX12_read_11) dX12_read_50 (fun σ1009 H locs hσ1009 hW => ?_)
    have h := h σ1009 hσ1009
    refine lv_aload_n hx hb dX12_read_53 rfl (lv_at hl 0 rfl) ?_
    refine lv_iconst (v := 0) hx hb dX12_read_54 (by decide) ?_
    refine xpX12_41 hx hb hts hown hK hW 0 hcX12_read_X12 (hI 0 (by decide)) lR_0 (hts _ hwX12_read_12) dX12_read_55 (fun σ1010 H locs hσ1010 hW => ?_)
    have h := h σ1010 hσ1010
    refine lv_aload_n hx hb dX12_read_58 rfl (lv_at hl 0 rfl) ?_
    refine lv_iconst (v := 0) hx hb dX12_read_59 (by decide) ?_
    refine xpX12_42 hx hb hts hown hK hW 0 hcX12_read_X12 (hI 0 (by decide)) lR_0 (hts _ hwX12_read_13) dX12_read_60 (fun σ1011 H locs hσ1011 hW => ?_)
    have h := h σ1011 hσ1011
    refine lv_aload_n hx hb dX12_read_63 rfl (lv_at hl 0 rfl) ?_
    refine lv_iconst (v := 0) hx hb dX12_read_64 (by decide) ?_
    refine xpX12_43 hx hb hts hown hK hW 0 hcX12_read_X12 (hI 0 (by decide)) lR_0 (hts _ hwX12_read_0) isB_0 dX12_read_65 (fun σ1012 H locs hσ1012 hW => ?_)
    have h := h σ1012 hσ1012
    refine lv_aload_n hx hb dX12_read_68 rfl (lv_at hl 0 rfl) ?_
    refine x_callv (va_runV (As := []) (rest := []) ⟨hx, hb, hml, hown, hts⟩ (J_X12_next l hI h) (cwV 0 hts gX12_read_X12_next rfl rfl rfl hdV_X12_next ⟨Nat.le_of_ble_eq_true rfl, Nat.le_of_ble_eq_true rfl⟩) (x_preV (ci := 12) hK hZ hA hW (hI 0 (by decide)) lR_0 rfl) rfl rfl hl.1 rfl (lv_room (Nat.le_of_ble_eq_true rfl)) dX12_read_69 ⟨Nat.zero_le _, Nat.zero_le _⟩) hW hA (fun σ1013 H locs h hW => ?_)
    try dsimp only at h
    refine lv_aload_n hx hb dX12_read_72 rfl (lv_at hl 0 rfl) ?_
    refine lv_ldc2 hx hb hown (hts _ hwX12_read_14) dX12_read_73 ?_
    refine x_calli (va_runV (As := [.long (456399 : Int64)]) (rest := []) ⟨hx, hb, hml, hown, hts⟩ (J_X12_part l hI h) (cwV 1 hts gX12_read_X12_part rfl rfl rfl hdV_X12_part ⟨Nat.le_of_ble_eq_true rfl, Nat.le_of_ble_eq_true rfl⟩) (x_preV (ci := 12) hK hZ hA hW (hI 0 (by decide)) lR_0 rfl) rfl rfl hl.1 rfl (lv_room (Nat.le_of_ble_eq_true rfl)) dX12_read_76 ⟨Nat.zero_le _, Nat.zero_le _⟩) hW hA (fun r1015 σ1014 H locs h hW => ?_)
    try dsimp only at h
    refine lv_istore (lv' := [(9, .int r1015), (0, .ref (ad 0)), (1, .int a1), (2, .int a2), (3, .int a3), (4, .int a4), (5, .int a5), (6, .int a6), (7, .int a7), (8, .int a8)]) hx hb dX12_read_79 hl (by decide) rfl (fun ls hl => ?_)
    refine lv_aload_n hx hb dX12_read_81 rfl (lv_at hl 1 rfl) ?_
    refine xgX12_43 hx hb hts hown hK hW 0 hcX12_read_X12 (hI 0 (by decide)) lR_0 (hts _ hwX12_read_0) dX12_read_82 ?_
    refine lv_if_eq (tgt := 92) hx hb dX12_read_85 (by decide) (fun c1016 => ?_) (fun c1016 => ?_)
    · have h := h.1 c1016
      refine lv_aload_n hx hb dX12_read_92 rfl (lv_at hl 1 rfl) ?_
      refine lv_ldc2 hx hb hown (hts _ hwX12_read_15) dX12_read_93 ?_
      refine x_calli (va_runV (As := [.long (262822 : Int64)]) (rest := []) ⟨hx, hb, hml, hown, hts⟩ (J_X12_part l hI h) (cwV 1 hts gX12_read_X12_part rfl rfl rfl hdV_X12_part ⟨Nat.le_of_ble_eq_true rfl, Nat.le_of_ble_eq_true rfl⟩) (x_preV (ci := 12) hK hZ hA hW (hI 0 (by decide)) lR_0 rfl) rfl rfl hl.1 rfl (lv_room (Nat.le_of_ble_eq_true rfl)) dX12_read_96 ⟨Nat.zero_le _, Nat.zero_le _⟩) hW hA (fun r1018 σ1017 H locs h hW => ?_)
      try dsimp only at h
      exact blk99   a8 r1015 r1018 _ _ _ _ hW (lv_sub hl [1, 9, 0] rfl) h
    · have h := h.2 c1016
      refine lv_iconst (v := 0) hx hb dX12_read_88 (by decide) ?_
      refine lv_goto (tgt := 99) hx hb dX12_read_89 (by decide) ?_
      exact blk99   a8 r1015 (0 : Int32) _ _ _ _ hW (lv_sub hl [1, 9, 0] rfl) h
  exact main _ _ _ hW hl
theorem hwX12_bite_0 : (.fieldLink RX12 160 "FortyBeltsModel" "machines" "I" : Cond) ∈ wsX12_bite := (List.mem_cons_of_mem _ (List.mem_append_left _ (List.mem_append_left _ (List.mem_of_getElem? (i := 4) rfl))))
theorem hwX12_bite_1 : (.fieldLink RX12 29 "FortyBeltsModel" "shaftOf" "[I" : Cond) ∈ wsX12_bite := (List.mem_cons_of_mem _ (List.mem_append_left _ (List.mem_append_left _ (List.mem_of_getElem? (i := 5) rfl))))
theorem hwX12_bite_2 : (.fieldLink RX12 44 "FortyBeltsModel" "isRun" "[I" : Cond) ∈ wsX12_bite := (List.mem_cons_of_mem _ (List.mem_append_left _ (List.mem_append_left _ (List.mem_of_getElem? (i := 6) rfl))))
theorem hwX12_bite_3 : (.fieldLink RX12 81 "FortyBeltsModel" "ways" "[I" : Cond) ∈ wsX12_bite := (List.mem_cons_of_mem _ (List.mem_append_left _ (List.mem_append_left _ (List.mem_of_getElem? (i := 7) rfl))))
theorem hwX12_bite_4 : (.fieldLink RX12 148 "FortyBeltsModel" "power" "I" : Cond) ∈ wsX12_bite := (List.mem_cons_of_mem _ (List.mem_append_left _ (List.mem_append_left _ (List.mem_of_getElem? (i := 3) rfl))))
theorem hwX12_bite_5 : (.fieldLink RX12 236 "FortyBeltsModel" "rule" "I" : Cond) ∈ wsX12_bite := (List.mem_cons_of_mem _ (List.mem_append_left _ (List.mem_append_left _ (List.mem_of_getElem? (i := 8) rfl))))
theorem hwX12_bite_6 : (.fieldLink RX12 32 "FortyBeltsModel" "load" "[I" : Cond) ∈ wsX12_bite := (List.mem_cons_of_mem _ (List.mem_append_left _ (List.mem_append_left _ (List.mem_of_getElem? (i := 9) rfl))))
theorem hwX12_bite_7 : (.fieldLink RX12 41 "FortyBeltsModel" "hours" "[I" : Cond) ∈ wsX12_bite := (List.mem_cons_of_mem _ (List.mem_append_left _ (List.mem_append_left _ (List.mem_of_getElem? (i := 10) rfl))))
theorem hwX12_bite_8 : (.constantLong RX12 171 (9999) : Cond) ∈ wsX12_bite := (List.mem_cons_of_mem _ (List.mem_append_left _ (List.mem_append_left _ (List.mem_of_getElem? (i := 0) rfl))))
theorem hwX12_bite_9 : (.fieldLink RX12 84 "FortyBeltsModel" "moreAt" "I" : Cond) ∈ wsX12_bite := (List.mem_cons_of_mem _ (List.mem_append_left _ (List.mem_append_left _ (List.mem_of_getElem? (i := 1) rfl))))
theorem hwX12_bite_10 : (.fieldLink RX12 216 "FortyBeltsModel" "more" "I" : Cond) ∈ wsX12_bite := (List.mem_cons_of_mem _ (List.mem_append_left _ (List.mem_append_left _ (List.mem_of_getElem? (i := 2) rfl))))
theorem hcX12_bite_X12 : ∀ w ∈ wsX120, w ∈ wsX12_bite := fun _ h => (List.mem_cons_of_mem _ (List.mem_append_right _ h))
set_option maxHeartbeats 4000000 in
set_option maxRecDepth 100000 in
theorem J_X12_bite {D : va_G} {KA : Nat → ClassId} {zs : ZS} {ad : Nat → Nat} {ids : List Nat} {sz : Nat} (l : Launch) (hI : ∀ c, c < 35 → c ∈ ids) {a1 : Int32} {a2 : Int32}  {σ : St} {post : Int32 → St → Prop} (h : wX12_bite  a1 a2 σ post) : Met l yX12_bite wsX12_bite rmX12_bite (va_Pc [.ref (ad 0), .int a1, .int a2] (xIn D KA zs layR stR ad ids sz σ)) (va_Qi post (xOut D KA layR stR ad ids) (xA ad ids sz)) 0 0 (xA ad ids sz) := by
  refine Met.ofW (cc := cX12_bite) (maxL := 9) (ret := (some .int)) (by decide) rfl ?_
  intro p e s m args below meth c s₁ B hml hv
  obtain ⟨hav, hsz, hK, hZ, hP, hD⟩ := hv
  have hx := B.exec
  have hb := B.bytes
  have hr := B.returns
  have hts := atoms_spec (ws := wsX12_bite) B.pre
  have hown : s.vm.findClass RX12 = some m.cls := findClass_of_methodNamed B.named
  have hlocks := B.notSynchronized
  subst hsz
  have hA : ∀ q : Nat, s.heap.size ≤ q → xA ad ids s.heap.size q := fun q h => Or.inr h
  have hW : xW D KA layR stR ad ids (xA ad ids s.heap.size) s.heap σ s.heap [] := ⟨hP, xA_D (D := D) hD, va_S.rf⟩
  have kr : ∀ (v : Int32) (σ : St) (H : Heap) (locs : List Loc) (ls : Array Slot) (pc : Nat), xW D KA layR stR ad ids (xA ad ids s.heap.size) s.heap σ H locs → post v σ → decode cX12_bite pc = .ok (.ireturn, 1) → W p l e rmX12_bite s m args below meth c H locs 0 0 (MQ below (va_Qi post (xOut D KA layR stR ad ids) (xA ad ids s.heap.size)) args s 0 0 (xA ad ids s.heap.size)) (F0 m pc ls [.int v]) := fun v σ H locs ls pc hW h hd => x_iret hx hb hr hlocks hW h hd
  have hl := lv_entry ([.ref (ad 0), .int a1, .int a2]) (n := 9) (Nat.le_of_ble_eq_true rfl)
  rw [show entryFrame m args 9 = entryFrame m ([.ref (ad 0), .int a1, .int a2] : List Value).toArray 9 from by rw [hav]]
  rw [lg_entry_eq]
  generalize (lg_sl ([.ref (ad 0), .int a1, .int a2]) ++ List.replicate (9 - (lg_sl ([.ref (ad 0), .int a1, .int a2])).length) Slot.unset).toArray = ls at hl ⊢
  have hl : lv_has ls 9 [(0, .ref (ad 0)), (1, .int a1), (2, .int a2)] := hl
  show W p l e rmX12_bite s m args below meth c s.heap [] 0 0 _ _
  generalize MQ below (va_Qi post (xOut D KA layR stR ad ids) (xA ad ids s.heap.size)) args s 0 0 (xA ad ids s.heap.size) = Q at kr ⊢
  have blk182 : ∀ (x1 : Int32) (x3 : Int64) (k66 : Int32 → Int32 → St → Prop) (hk66 : ∀ (x5 : Int32) (x6 : Int32) (σ : St) (H : Heap) (locs : List Loc) (ls : Array Slot), xW D KA layR stR ad ids (xA ad ids s.heap.size) s.heap σ H locs → lv_has ls 9 [(0, .ref (ad 0)), (1, .int x1), (3, .long x3), (5, .int x5), (6, .int x6)] → k66 x5 x6 σ → W p l e rmX12_bite s m args below meth c H locs 0 0 Q (F0 m 66 ls [])) (x5 : Int32) (x6 : Int32) (σ : St) (H : Heap) (locs : List Loc) (ls : Array Slot), xW D KA layR stR ad ids (xA ad ids s.heap.size) s.heap σ H locs → lv_has ls 9 [(0, .ref (ad 0)), (1, .int x1), (3, .long x3), (5, .int x5), (6, .int x6)] → wX12_bite_182 k66 post x1 x3 x5 x6 σ → W p l e rmX12_bite s m args below meth c H locs 0 0 Q (F0 m 182 ls []) := by
    intro x1 x3 k66 hk66 x5 x6 σ H locs ls hW hl h
    unfold wX12_bite_182 at h
    obtain ⟨v1, hv1⟩ : ∃ y : Int32, y = x6 + (1 : Int32) := ⟨_, rfl⟩
    have h := h v1 hv1
    refine lv_iinc (v := v1) (lv' := [(6, .int v1), (0, .ref (ad 0)), (1, .int x1), (3, .long x3), (5, .int x5)]) hx hb dX12_bite_182 hl (k := 4) rfl (by rw [hv1]; rfl) (by decide) rfl (fun ls hl => ?_)
    refine lv_goto (tgt := 66) hx hb dX12_bite_185 (by decide) ?_
    exact hk66 x5 v1 _ _ _ _ hW (lv_sub hl [1, 2, 3, 4, 0] rfl) h
  have blk179 : ∀ (x1 : Int32) (x3 : Int64) (k66 : Int32 → Int32 → St → Prop) (hk66 : ∀ (x5 : Int32) (x6 : Int32) (σ : St) (H : Heap) (locs : List Loc) (ls : Array Slot), xW D KA layR stR ad ids (xA ad ids s.heap.size) s.heap σ H locs → lv_has ls 9 [(0, .ref (ad 0)), (1, .int x1), (3, .long x3), (5, .int x5), (6, .int x6)] → k66 x5 x6 σ → W p l e rmX12_bite s m args below meth c H locs 0 0 Q (F0 m 66 ls [])) (x6 : Int32) (s0 : Int32) (s1 : Int32) (σ : St) (H : Heap) (locs : List Loc) (ls : Array Slot), xW D KA layR stR ad ids (xA ad ids s.heap.size) s.heap σ H locs → lv_has ls 9 [(0, .ref (ad 0)), (1, .int x1), (3, .long x3), (6, .int x6)] → wX12_bite_179 k66 post x1 x3 x6 s0 s1 σ → W p l e rmX12_bite s m args below meth c H locs 0 0 Q (F0 m 179 ls [.int s1, .int s0]) := by
    intro x1 x3 k66 hk66 x6 s0 s1 σ H locs ls hW hl h
    unfold wX12_bite_179 at h
    refine lv_ior hx hb dX12_bite_179 ?_
    refine lv_topi (fun v2 hv2 => ?_)
    have h := h v2 hv2
    refine lv_istore (lv' := [(5, .int v2), (0, .ref (ad 0)), (1, .int x1), (3, .long x3), (6, .int x6)]) hx hb dX12_bite_180 hl (by decide) rfl (fun ls hl => ?_)
    exact blk182 x1 x3 k66 hk66 v2 x6 _ _ _ _ hW (lv_sub hl [1, 2, 3, 0, 4] rfl) h
  have blk66 : ∀ (x1 : Int32) (x3 : Int64) (n : Nat) (x5 : Int32) (x6 : Int32) (σ : St) (H : Heap) (locs : List Loc) (ls : Array Slot), xW D KA layR stR ad ids (xA ad ids s.heap.size) s.heap σ H locs → lv_has ls 9 [(0, .ref (ad 0)), (1, .int x1), (3, .long x3), (5, .int x5), (6, .int x6)] → wX12_bite_66 post x1 x3 n x5 x6 σ → W p l e rmX12_bite s m args below meth c H locs 0 0 Q (F0 m 66 ls []) := by
    intro   x1 x3 n
    induction n with
    | zero => intro x5 x6 σ H locs ls hW hl h; exact (h : False).elim
    | succ n ih =>
      intro x5 x6 σ H locs ls hW hl h
      have hk66 : ∀ (x5 : Int32) (x6 : Int32) (σ : St) (H : Heap) (locs : List Loc) (ls : Array Slot), xW D KA layR stR ad ids (xA ad ids s.heap.size) s.heap σ H locs → lv_has ls 9 [(0, .ref (ad 0)), (1, .int x1), (3, .long x3), (5, .int x5), (6, .int x6)] → (wX12_bite_66 post x1 x3 n) x5 x6 σ → W p l e rmX12_bite s m args below meth c H locs 0 0 Q (F0 m 66 ls []) := fun x5 x6 σ H locs ls hW hl h => ih x5 x6 σ H locs ls hW hl h
      rw [wX12_bite_66_s] at h
      try dsimp only at h
      generalize wX12_bite_66 post x1 x3 n = k66 at h hk66
      refine lv_iload hx hb dX12_bite_66 (lv_at hl 4 rfl) ?_
      refine lv_aload_n hx hb dX12_bite_68 rfl (lv_at hl 0 rfl) ?_
      refine xgX12_18 hx hb hts hown hK hW 0 hcX12_bite_X12 (hI 0 (by decide)) lR_0 (hts _ hwX12_bite_0) dX12_bite_69 ?_
      refine lv_icmp_ge (tgt := 188) hx hb dX12_bite_72 (by decide) (fun c3 => ?_) (fun c3 => ?_)
      · have h := h.1 c3
        refine lv_iload hx hb dX12_bite_188 (lv_at hl 3 rfl) ?_
        exact kr _ _ _ _ _ _ hW h dX12_bite_190
      · have h := h.2 c3
        refine lv_aload_n hx hb dX12_bite_75 rfl (lv_at hl 0 rfl) ?_
        refine xgX12_12r hx hb hts hown hK hW 0 hcX12_bite_X12 (hI 0 (by decide)) lR_0 (hts _ hwX12_bite_1) (sR_0_12 _) dX12_bite_76 ?_
        refine lv_iload hx hb dX12_bite_79 (lv_at hl 4 rfl) ?_
        obtain ⟨hi4, h⟩ := h
        refine x_iald hx hb hK hW 6 (hI 6 (by decide)) lR_6 hi4 dX12_bite_81 ?_
        refine lv_topi (fun v5 hv5 => ?_)
        have h := h v5 hv5
        refine lv_istore (lv' := [(7, .int v5), (0, .ref (ad 0)), (1, .int x1), (3, .long x3), (5, .int x5), (6, .int x6)]) hx hb dX12_bite_82 hl (by decide) rfl (fun ls hl => ?_)
        refine lv_iload hx hb dX12_bite_84 (lv_at hl 5 rfl) ?_
        refine lv_iload_n hx hb dX12_bite_86 rfl (lv_at hl 2 rfl) ?_
        refine lv_icmp_eq (tgt := 182) hx hb dX12_bite_87 (by decide) (fun c6 => ?_) (fun c6 => ?_)
        · have h := h.1 c6
          exact blk182 x1 x3 k66 hk66 x5 x6 _ _ _ _ hW (lv_sub hl [1, 2, 3, 4, 5] rfl) h
        · have h := h.2 c6
          refine lv_aload_n hx hb dX12_bite_90 rfl (lv_at hl 1 rfl) ?_
          refine xgX12_17r hx hb hts hown hK hW 0 hcX12_bite_X12 (hI 0 (by decide)) lR_0 (hts _ hwX12_bite_2) (sR_0_17 _) dX12_bite_91 ?_
          refine lv_iload hx hb dX12_bite_94 (lv_at hl 5 rfl) ?_
          refine x_iald hx hb hK hW 11 (hI 11 (by decide)) lR_11 hi4 dX12_bite_96 ?_
          refine lv_if_eq (tgt := 182) hx hb dX12_bite_97 (by decide) (fun c8 => ?_) (fun c8 => ?_)
          · have h := h.1 c8
            exact blk182 x1 x3 k66 hk66 x5 x6 _ _ _ _ hW (lv_sub hl [1, 2, 3, 4, 5] rfl) h
          · have h := h.2 c8
            refine lv_aload_n hx hb dX12_bite_100 rfl (lv_at hl 1 rfl) ?_
            refine xgX12_33r hx hb hts hown hK hW 0 hcX12_bite_X12 (hI 0 (by decide)) lR_0 (hts _ hwX12_bite_3) (sR_0_33 _) dX12_bite_101 ?_
            refine lv_iload hx hb dX12_bite_104 (lv_at hl 0 rfl) ?_
            obtain ⟨hi9, h⟩ := h
            refine x_iald hx hb hK hW 22 (hI 22 (by decide)) lR_22 hi9 dX12_bite_106 ?_
            refine lv_if_ne (tgt := 113) hx hb dX12_bite_107 (by decide) (fun c10 => ?_) (fun c10 => ?_)
            · have h := h.1 c10
              refine lv_lload_n hx hb dX12_bite_113 rfl (lv_at hl 3 rfl) ?_
              refine lv_aload_n hx hb dX12_bite_114 rfl (lv_at hl 1 rfl) ?_
              refine xgX12_11 hx hb hts hown hK hW 0 hcX12_bite_X12 (hI 0 (by decide)) lR_0 (hts _ hwX12_bite_4) dX12_bite_115 ?_
              refine lv_i2l hx hb dX12_bite_118 rfl ?_
              refine lv_lsub hx hb dX12_bite_119 ?_
              refine lv_aload_n hx hb dX12_bite_120 rfl (lv_at hl 1 rfl) ?_
              refine lv_iload hx hb dX12_bite_121 (lv_at hl 0 rfl) ?_
              refine x_calli (va_runV (As := [.int v5]) (rest := [.long (x3 - ((gI σ 0 11).toInt64))]) ⟨hx, hb, hml, hown, hts⟩ (J_X12_cutTurns l hI h) (cwV 1 hts gX12_bite_X12_cutTurns rfl rfl rfl hdV_X12_cutTurns ⟨Nat.le_of_ble_eq_true rfl, Nat.le_of_ble_eq_true rfl⟩) (x_preV (ci := 12) hK hZ hA hW (hI 0 (by decide)) lR_0 rfl) rfl rfl hl.1 rfl (lv_room (Nat.le_of_ble_eq_true rfl)) dX12_bite_123 ⟨Nat.zero_le _, Nat.zero_le _⟩) hW hA (fun r12 σ11 H locs h hW => ?_)
              try dsimp only at h
              refine lv_i2l hx hb dX12_bite_126 rfl ?_
              refine lv_lmul hx hb dX12_bite_127 ?_
              refine lv_lload_n hx hb dX12_bite_128 rfl (lv_at hl 3 rfl) ?_
              obtain ⟨hd13, h⟩ := h
              refine lv_ldiv hx hb dX12_bite_129 hd13 ?_
              refine lv_l2i hx hb dX12_bite_130 rfl ?_
              refine lv_topi (fun v14 hv14 => ?_)
              have h := h v14 hv14
              refine lv_istore (lv' := [(8, .int v14), (7, .int v5), (0, .ref (ad 0)), (1, .int x1), (3, .long x3), (5, .int x5), (6, .int x6)]) hx hb dX12_bite_131 hl (by decide) rfl (fun ls hl => ?_)
              refine lv_iload hx hb dX12_bite_133 (lv_at hl 5 rfl) ?_
              refine lv_aload_n hx hb dX12_bite_135 rfl (lv_at hl 2 rfl) ?_
              refine lv_aload_n hx hb dX12_bite_136 rfl (lv_at hl 2 rfl) ?_
              refine xgX12_4 hx hb hts hown hK hW 0 hcX12_bite_X12 (hI 0 (by decide)) lR_0 (hts _ hwX12_bite_5) dX12_bite_137 ?_
              refine lv_iconst (v := 0) hx hb dX12_bite_140 (by decide) ?_
              refine lv_aload_n hx hb dX12_bite_141 rfl (lv_at hl 2 rfl) ?_
              refine lv_iload hx hb dX12_bite_142 (lv_at hl 1 rfl) ?_
              refine x_calli (va_runV (As := [.int v5]) (rest := [.int (0 : Int32), .int (gI σ11 0 4), .ref (ad 0), .int x5]) ⟨hx, hb, hml, hown, hts⟩ (J_X12_cutTurns l hI h) (cwV 1 hts gX12_bite_X12_cutTurns rfl rfl rfl hdV_X12_cutTurns ⟨Nat.le_of_ble_eq_true rfl, Nat.le_of_ble_eq_true rfl⟩) (x_preV (ci := 12) hK hZ hA hW (hI 0 (by decide)) lR_0 rfl) rfl rfl hl.1 rfl (lv_room (Nat.le_of_ble_eq_true rfl)) dX12_bite_144 ⟨Nat.zero_le _, Nat.zero_le _⟩) hW hA (fun r16 σ15 H locs h hW => ?_)
              try dsimp only at h
              refine lv_iload hx hb dX12_bite_147 (lv_at hl 0 rfl) ?_
              refine lv_aload_n hx hb dX12_bite_149 rfl (lv_at hl 2 rfl) ?_
              refine xgX12_13r hx hb hts hown hK hW 0 hcX12_bite_X12 (hI 0 (by decide)) lR_0 (hts _ hwX12_bite_6) (sR_0_13 _) dX12_bite_150 ?_
              refine lv_iload hx hb dX12_bite_153 (lv_at hl 6 rfl) ?_
              refine x_iald hx hb hK hW 7 (hI 7 (by decide)) lR_7 hi4 dX12_bite_155 ?_
              refine lv_iconst (v := 0) hx hb dX12_bite_156 (by decide) ?_
              refine lv_aload_n hx hb dX12_bite_157 rfl (lv_at hl 2 rfl) ?_
              refine xgX12_16r hx hb hts hown hK hW 0 hcX12_bite_X12 (hI 0 (by decide)) lR_0 (hts _ hwX12_bite_7) (sR_0_16 _) dX12_bite_158 ?_
              refine lv_iload hx hb dX12_bite_161 (lv_at hl 6 rfl) ?_
              refine x_iald hx hb hK hW 10 (hI 10 (by decide)) lR_10 hi4 dX12_bite_163 ?_
              refine lv_iconst (v := 1) hx hb dX12_bite_164 (by decide) ?_
              refine x_calli (va_runV (As := [.int (gI σ11 0 4), .int (0 : Int32), .int r16, .int v14, .int (gI σ15 7 x6.toNatClampNeg), .int (0 : Int32), .int (gI σ15 10 x6.toNatClampNeg), .int (1 : Int32)]) (rest := [.int x5]) ⟨hx, hb, hml, hown, hts⟩ (J_X12_read l hI h) (cwV 8 hts gX12_bite_X12_read rfl rfl rfl hdV_X12_read ⟨Nat.le_of_ble_eq_true rfl, Nat.le_of_ble_eq_true rfl⟩) (x_preV (ci := 12) hK hZ hA hW (hI 0 (by decide)) lR_0 rfl) rfl rfl hl.1 rfl (lv_room (Nat.le_of_ble_eq_true rfl)) dX12_bite_165 ⟨Nat.zero_le _, Nat.zero_le _⟩) hW hA (fun r20 σ19 H locs h hW => ?_)
              try dsimp only at h
              refine lv_if_eq (tgt := 178) hx hb dX12_bite_168 (by decide) (fun c21 => ?_) (fun c21 => ?_)
              · have h := h.1 c21
                refine lv_iconst (v := 0) hx hb dX12_bite_178 (by decide) ?_
                exact blk179 x1 x3 k66 hk66 x6 x5 (0 : Int32) _ _ _ _ hW (lv_sub hl [2, 3, 4, 6] rfl) h
              · have h := h.2 c21
                refine lv_iconst (v := 1) hx hb dX12_bite_171 (by decide) ?_
                refine lv_iload hx hb dX12_bite_172 (lv_at hl 6 rfl) ?_
                refine lv_ishl hx hb dX12_bite_174 ?_
                refine lv_goto (tgt := 179) hx hb dX12_bite_175 (by decide) ?_
                exact blk179 x1 x3 k66 hk66 x6 x5 ((1 : Int32) <<< (x6 &&& 31)) _ _ _ _ hW (lv_sub hl [2, 3, 4, 6] rfl) h
            · have h := h.2 c10
              refine lv_goto (tgt := 182) hx hb dX12_bite_110 (by decide) ?_
              exact blk182 x1 x3 k66 hk66 x5 x6 _ _ _ _ hW (lv_sub hl [1, 2, 3, 4, 5] rfl) h
  have blk20 : ∀ (σ : St) (H : Heap) (locs : List Loc) (ls : Array Slot), xW D KA layR stR ad ids (xA ad ids s.heap.size) s.heap σ H locs → lv_has ls 9 [] → wX12_bite_20 post  σ → W p l e rmX12_bite s m args below meth c H locs 0 0 Q (F0 m 20 ls []) := by
    intro    σ H locs ls hW hl h
    unfold wX12_bite_20 at h
    refine lv_bipush (v := (-2)) hx hb dX12_bite_20 (by decide) ?_
    exact kr _ _ _ _ _ _ hW h dX12_bite_22
  have main : ∀ (H : Heap) (locs : List Loc) (ls : Array Slot), xW D KA layR stR ad ids (xA ad ids s.heap.size) s.heap σ H locs → lv_has ls 9 [(0, .ref (ad 0)), (1, .int a1), (2, .int a2)] → W p l e rmX12_bite s m args below meth c H locs 0 0 Q (F0 m 0 ls []) := by
    intro H locs ls hW hl
    unfold wX12_bite at h
    refine lv_aload_n hx hb dX12_bite_0 rfl (lv_at hl 0 rfl) ?_
    refine lv_iload_n hx hb dX12_bite_1 rfl (lv_at hl 1 rfl) ?_
    refine x_calli (va_runV (As := [.int a1]) (rest := []) ⟨hx, hb, hml, hown, hts⟩ (J_X12_isMachine l hI h) (cwV 1 hts gX12_bite_X12_isMachine rfl rfl rfl hdV_X12_isMachine ⟨Nat.le_of_ble_eq_true rfl, Nat.le_of_ble_eq_true rfl⟩) (x_preV (ci := 12) hK hZ hA hW (hI 0 (by decide)) lR_0 rfl) rfl rfl hl.1 rfl (lv_room (Nat.le_of_ble_eq_true rfl)) dX12_bite_2 ⟨Nat.zero_le _, Nat.zero_le _⟩) hW hA (fun r1002 σ1001 H locs h hW => ?_)
    try dsimp only at h
    refine lv_if_eq (tgt := 20) hx hb dX12_bite_5 (by decide) (fun c1003 => ?_) (fun c1003 => ?_)
    · have h := h.1 c1003
      exact blk20    _ _ _ _ hW (lv_sub hl [] rfl) h
    · have h := h.2 c1003
      refine lv_iload_n hx hb dX12_bite_8 rfl (lv_at hl 2 rfl) ?_
      refine lv_i2l hx hb dX12_bite_9 rfl ?_
      refine lv_lconst (v := 0) hx hb dX12_bite_10 (by decide) ?_
      refine lv_ldc2 hx hb hown (hts _ hwX12_bite_8) dX12_bite_11 ?_
      refine x_calli (va_runS (As := [.long (a2.toInt64), .long (0 : Int64), .long (9999 : Int64)]) (rest := []) ⟨hx, hb, hml, hown, hts⟩ (J_X12_in l hI h) (va_cwS 3 hts gX12_bite_X12_in rfl rfl rfl hdS_X12_in ⟨Nat.le_of_ble_eq_true rfl, Nat.le_of_ble_eq_true rfl⟩) (x_preS hK hZ hA hW) rfl rfl hl.1 rfl (lv_room (Nat.le_of_ble_eq_true rfl)) dX12_bite_14 ⟨Nat.zero_le _, Nat.zero_le _⟩) hW hA (fun r1005 σ1004 H locs h hW => ?_)
      try dsimp only at h
      refine lv_if_ne (tgt := 23) hx hb dX12_bite_17 (by decide) (fun c1006 => ?_) (fun c1006 => ?_)
      · have h := h.1 c1006
        refine lv_aload_n hx hb dX12_bite_23 rfl (lv_at hl 0 rfl) ?_
        refine x_callv (va_runV (As := []) (rest := []) ⟨hx, hb, hml, hown, hts⟩ (J_X12_lays l hI h) (cwV 0 hts gX12_bite_X12_lays rfl rfl rfl hdV_X12_lays ⟨Nat.le_of_ble_eq_true rfl, Nat.le_of_ble_eq_true rfl⟩) (x_preV (ci := 12) hK hZ hA hW (hI 0 (by decide)) lR_0 rfl) rfl rfl hl.1 rfl (lv_room (Nat.le_of_ble_eq_true rfl)) dX12_bite_24 ⟨Nat.zero_le _, Nat.zero_le _⟩) hW hA (fun σ1007 H locs h hW => ?_)
        try dsimp only at h
        refine lv_aload_n hx hb dX12_bite_27 rfl (lv_at hl 0 rfl) ?_
        refine lv_iload_n hx hb dX12_bite_28 rfl (lv_at hl 1 rfl) ?_
        refine xpX12_34 hx hb hts hown hK hW 0 hcX12_bite_X12 (hI 0 (by decide)) lR_0 (hts _ hwX12_bite_9) dX12_bite_29 (fun σ1008 H locs hσ1008 hW => ?_)
        have h := h σ1008 hσ1008
        refine lv_aload_n hx hb dX12_bite_32 rfl (lv_at hl 0 rfl) ?_
        refine lv_iload_n hx hb dX12_bite_33 rfl (lv_at hl 2 rfl) ?_
        refine xpX12_35 hx hb hts hown hK hW 0 hcX12_bite_X12 (hI 0 (by decide)) lR_0 (hts _ hwX12_bite_10) dX12_bite_34 (fun σ1009 H locs hσ1009 hW => ?_)
        have h := h σ1009 hσ1009
        refine lv_aload_n hx hb dX12_bite_37 rfl (lv_at hl 0 rfl) ?_
        refine x_calli (va_runV (As := []) (rest := []) ⟨hx, hb, hml, hown, hts⟩ (J_X12_allLoaded l hI h) (cwV 0 hts gX12_bite_X12_allLoaded rfl rfl rfl hdV_X12_allLoaded ⟨Nat.le_of_ble_eq_true rfl, Nat.le_of_ble_eq_true rfl⟩) (x_preV (ci := 12) hK hZ hA hW (hI 0 (by decide)) lR_0 rfl) rfl rfl hl.1 rfl (lv_room (Nat.le_of_ble_eq_true rfl)) dX12_bite_38 ⟨Nat.zero_le _, Nat.zero_le _⟩) hW hA (fun r1011 σ1010 H locs h hW => ?_)
        try dsimp only at h
        refine lv_i2l hx hb dX12_bite_41 rfl ?_
        refine lv_topl (fun v1012 hv1012 => ?_)
        have h := h v1012 hv1012
        refine lv_lstore_n (lv' := [(3, .long v1012), (0, .ref (ad 0)), (1, .int a1), (2, .int a2)]) hx hb dX12_bite_42 rfl hl (by decide) rfl (fun ls hl => ?_)
        refine lv_aload_n hx hb dX12_bite_43 rfl (lv_at hl 1 rfl) ?_
        refine lv_iconst (v := (-1)) hx hb dX12_bite_44 (by decide) ?_
        refine xpX12_34 hx hb hts hown hK hW 0 hcX12_bite_X12 (hI 0 (by decide)) lR_0 (hts _ hwX12_bite_9) dX12_bite_45 (fun σ1013 H locs hσ1013 hW => ?_)
        have h := h σ1013 hσ1013
        refine lv_lload_n hx hb dX12_bite_48 rfl (lv_at hl 0 rfl) ?_
        refine lv_aload_n hx hb dX12_bite_49 rfl (lv_at hl 1 rfl) ?_
        refine xgX12_11 hx hb hts hown hK hW 0 hcX12_bite_X12 (hI 0 (by decide)) lR_0 (hts _ hwX12_bite_4) dX12_bite_50 ?_
        refine lv_i2l hx hb dX12_bite_53 rfl ?_
        refine W.lcmp hx hb dX12_bite_54 ?_
        refine lv_if_gt (tgt := 60) hx hb dX12_bite_55 (by decide) (fun c1014 => ?_) (fun c1014 => ?_)
        · have h := h.1 c1014
          refine lv_iconst (v := 0) hx hb dX12_bite_60 (by decide) ?_
          refine lv_istore (lv' := [(5, .int (0 : Int32)), (3, .long v1012), (0, .ref (ad 0)), (1, .int a1), (2, .int a2)]) hx hb dX12_bite_61 hl (by decide) rfl (fun ls hl => ?_)
          refine lv_iconst (v := 0) hx hb dX12_bite_63 (by decide) ?_
          refine lv_istore (lv' := [(6, .int (0 : Int32)), (5, .int (0 : Int32)), (3, .long v1012), (0, .ref (ad 0)), (1, .int a1), (2, .int a2)]) hx hb dX12_bite_64 hl (by decide) rfl (fun ls hl => ?_)
          obtain ⟨n, h⟩ := h
          exact blk66   a1 v1012 n (0 : Int32) (0 : Int32) _ _ _ _ hW (lv_sub hl [3, 4, 2, 1, 0] rfl) h
        · have h := h.2 c1014
          refine lv_iconst (v := 0) hx hb dX12_bite_58 (by decide) ?_
          exact kr _ _ _ _ _ _ hW h dX12_bite_59
      · have h := h.2 c1006
        exact blk20    _ _ _ _ hW (lv_sub hl [] rfl) h
  exact main _ _ _ hW hl
theorem hwX12_isSheet_0 : (.constantLong RX12 471 (3) : Cond) ∈ wsX12_isSheet := (List.mem_cons_of_mem _ (List.mem_of_getElem? (i := 0) rfl))
set_option maxHeartbeats 4000000 in
set_option maxRecDepth 100000 in
theorem J_X12_isSheet {D : va_G} {KA : Nat → ClassId} {zs : ZS} {ad : Nat → Nat} {ids : List Nat} {sz : Nat} (l : Launch) (hI : ∀ c, c < 35 → c ∈ ids) {a0 : Int32}  {σ : St} {post : Int32 → St → Prop} (h : wX12_isSheet  a0 σ post) : Met l yX12_isSheet wsX12_isSheet rmX12_isSheet (va_Pc [.int a0] (xIn D KA zs layR stR ad ids sz σ)) (va_Qi post (xOut D KA layR stR ad ids) (xA ad ids sz)) 0 0 (xA ad ids sz) := by
  refine Met.ofW (cc := cX12_isSheet) (maxL := 1) (ret := (some .boolean)) (by decide) rfl ?_
  intro p e s m args below meth c s₁ B hml hv
  obtain ⟨hav, hsz, hK, hZ, hP, hD⟩ := hv
  have hx := B.exec
  have hb := B.bytes
  have hr := B.returns
  have hts := atoms_spec (ws := wsX12_isSheet) B.pre
  have hown : s.vm.findClass RX12 = some m.cls := findClass_of_methodNamed B.named
  have hlocks := B.notSynchronized
  subst hsz
  have hA : ∀ q : Nat, s.heap.size ≤ q → xA ad ids s.heap.size q := fun q h => Or.inr h
  have hW : xW D KA layR stR ad ids (xA ad ids s.heap.size) s.heap σ s.heap [] := ⟨hP, xA_D (D := D) hD, va_S.rf⟩
  have kr : ∀ (v : Int32) (σ : St) (H : Heap) (locs : List Loc) (ls : Array Slot) (pc : Nat), xW D KA layR stR ad ids (xA ad ids s.heap.size) s.heap σ H locs → isB v → post v σ → decode cX12_isSheet pc = .ok (.ireturn, 1) → W p l e rmX12_isSheet s m args below meth c H locs 0 0 (MQ below (va_Qi post (xOut D KA layR stR ad ids) (xA ad ids s.heap.size)) args s 0 0 (xA ad ids s.heap.size)) (F0 m pc ls [.int v]) := fun v σ H locs ls pc hW hz h hd => x_zret hx hb hr hlocks hW hz h hd
  have hl := lv_entry ([.int a0]) (n := 1) (Nat.le_of_ble_eq_true rfl)
  rw [show entryFrame m args 1 = entryFrame m ([.int a0] : List Value).toArray 1 from by rw [hav]]
  rw [lg_entry_eq]
  generalize (lg_sl ([.int a0]) ++ List.replicate (1 - (lg_sl ([.int a0])).length) Slot.unset).toArray = ls at hl ⊢
  have hl : lv_has ls 1 [(0, .int a0)] := hl
  show W p l e rmX12_isSheet s m args below meth c s.heap [] 0 0 _ _
  generalize MQ below (va_Qi post (xOut D KA layR stR ad ids) (xA ad ids s.heap.size)) args s 0 0 (xA ad ids s.heap.size) = Q at kr ⊢
  have main : ∀ (H : Heap) (locs : List Loc) (ls : Array Slot), xW D KA layR stR ad ids (xA ad ids s.heap.size) s.heap σ H locs → lv_has ls 1 [(0, .int a0)] → W p l e rmX12_isSheet s m args below meth c H locs 0 0 Q (F0 m 0 ls []) := by
    intro H locs ls hW hl
    unfold wX12_isSheet at h
    refine lv_iload_n hx hb dX12_isSheet_0 rfl (lv_at hl 0 rfl) ?_
    refine lv_i2l hx hb dX12_isSheet_1 rfl ?_
    refine lv_lconst (v := 0) hx hb dX12_isSheet_2 (by decide) ?_
    refine lv_ldc2 hx hb hown (hts _ hwX12_isSheet_0) dX12_isSheet_3 ?_
    refine x_calli (va_runS (As := [.long (a0.toInt64), .long (0 : Int64), .long (3 : Int64)]) (rest := []) ⟨hx, hb, hml, hown, hts⟩ (J_X12_in l hI h) (va_cwS 3 hts gX12_isSheet_X12_in rfl rfl rfl hdS_X12_in ⟨Nat.le_of_ble_eq_true rfl, Nat.le_of_ble_eq_true rfl⟩) (x_preS hK hZ hA hW) rfl rfl hl.1 rfl (lv_room (Nat.le_of_ble_eq_true rfl)) dX12_isSheet_6 ⟨Nat.zero_le _, Nat.zero_le _⟩) hW hA (fun r1002 σ1001 H locs h hW => ?_)
    try dsimp only at h
    obtain ⟨hz1003, h⟩ := h
    exact kr _ _ _ _ _ _ hW hz1003 h dX12_isSheet_9
  exact main _ _ _ hW hl
theorem hwX12_cell_0 : (.fieldLink RX12 111 "FortyBeltsModel" "isThere" "[Z" : Cond) ∈ wsX12_cell := (List.mem_cons_of_mem _ (List.mem_append_left _ (List.mem_of_getElem? (i := 0) rfl)))
theorem hwX12_cell_1 : (.fieldLink RX12 118 "FortyBeltsModel" "sheetSize" "[I" : Cond) ∈ wsX12_cell := (List.mem_cons_of_mem _ (List.mem_append_left _ (List.mem_of_getElem? (i := 1) rfl)))
theorem hwX12_cell_2 : (.fieldLink RX12 121 "FortyBeltsModel" "items" "[I" : Cond) ∈ wsX12_cell := (List.mem_cons_of_mem _ (List.mem_append_left _ (List.mem_of_getElem? (i := 2) rfl)))
theorem hwX12_cell_3 : (.fieldLink RX12 115 "FortyBeltsModel" "sorts" "[I" : Cond) ∈ wsX12_cell := (List.mem_cons_of_mem _ (List.mem_append_left _ (List.mem_of_getElem? (i := 3) rfl)))
theorem hcX12_cell_X12 : ∀ w ∈ wsX120, w ∈ wsX12_cell := fun _ h => (List.mem_cons_of_mem _ (List.mem_append_right _ h))
set_option maxHeartbeats 4000000 in
set_option maxRecDepth 100000 in
theorem J_X12_cell {D : va_G} {KA : Nat → ClassId} {zs : ZS} {ad : Nat → Nat} {ids : List Nat} {sz : Nat} (l : Launch) (hI : ∀ c, c < 35 → c ∈ ids) {a1 : Int32} {a2 : Int32} {a3 : Int32}  {σ : St} {post : Int32 → St → Prop} (h : wX12_cell  a1 a2 a3 σ post) : Met l yX12_cell wsX12_cell rmX12_cell (va_Pc [.ref (ad 0), .int a1, .int a2, .int a3] (xIn D KA zs layR stR ad ids sz σ)) (va_Qi post (xOut D KA layR stR ad ids) (xA ad ids sz)) 0 0 (xA ad ids sz) := by
  refine Met.ofW (cc := cX12_cell) (maxL := 4) (ret := (some .int)) (by decide) rfl ?_
  intro p e s m args below meth c s₁ B hml hv
  obtain ⟨hav, hsz, hK, hZ, hP, hD⟩ := hv
  have hx := B.exec
  have hb := B.bytes
  have hr := B.returns
  have hts := atoms_spec (ws := wsX12_cell) B.pre
  have hown : s.vm.findClass RX12 = some m.cls := findClass_of_methodNamed B.named
  have hlocks := B.notSynchronized
  subst hsz
  have hA : ∀ q : Nat, s.heap.size ≤ q → xA ad ids s.heap.size q := fun q h => Or.inr h
  have hW : xW D KA layR stR ad ids (xA ad ids s.heap.size) s.heap σ s.heap [] := ⟨hP, xA_D (D := D) hD, va_S.rf⟩
  have kr : ∀ (v : Int32) (σ : St) (H : Heap) (locs : List Loc) (ls : Array Slot) (pc : Nat), xW D KA layR stR ad ids (xA ad ids s.heap.size) s.heap σ H locs → post v σ → decode cX12_cell pc = .ok (.ireturn, 1) → W p l e rmX12_cell s m args below meth c H locs 0 0 (MQ below (va_Qi post (xOut D KA layR stR ad ids) (xA ad ids s.heap.size)) args s 0 0 (xA ad ids s.heap.size)) (F0 m pc ls [.int v]) := fun v σ H locs ls pc hW h hd => x_iret hx hb hr hlocks hW h hd
  have hl := lv_entry ([.ref (ad 0), .int a1, .int a2, .int a3]) (n := 4) (Nat.le_of_ble_eq_true rfl)
  rw [show entryFrame m args 4 = entryFrame m ([.ref (ad 0), .int a1, .int a2, .int a3] : List Value).toArray 4 from by rw [hav]]
  rw [lg_entry_eq]
  generalize (lg_sl ([.ref (ad 0), .int a1, .int a2, .int a3]) ++ List.replicate (4 - (lg_sl ([.ref (ad 0), .int a1, .int a2, .int a3])).length) Slot.unset).toArray = ls at hl ⊢
  have hl : lv_has ls 4 [(0, .ref (ad 0)), (1, .int a1), (2, .int a2), (3, .int a3)] := hl
  show W p l e rmX12_cell s m args below meth c s.heap [] 0 0 _ _
  generalize MQ below (va_Qi post (xOut D KA layR stR ad ids) (xA ad ids s.heap.size)) args s 0 0 (xA ad ids s.heap.size) = Q at kr ⊢
  have blk83 : ∀ (s1 : Int32) (s2 : Int32) (σ : St) (H : Heap) (locs : List Loc) (ls : Array Slot), xW D KA layR stR ad ids (xA ad ids s.heap.size) s.heap σ H locs → lv_has ls 4 [] → wX12_cell_83 post s1 s2 σ → W p l e rmX12_cell s m args below meth c H locs 0 0 Q (F0 m 83 ls [.int s2, .int s1, .ref (ad 34)]) := by
    intro   s1 s2 σ H locs ls hW hl h
    unfold wX12_cell_83 at h
    obtain ⟨hi1, h⟩ := h
    refine x_iast hx hb hK hW 34 (hI 34 (by decide)) lR_34 hi1 dX12_cell_83 (fun σ2 H locs hσ2 hW => ?_)
    have h := h σ2 hσ2
    refine lv_iconst (v := 1) hx hb dX12_cell_84 (by decide) ?_
    exact kr _ _ _ _ _ _ hW h dX12_cell_85
  have main : ∀ (H : Heap) (locs : List Loc) (ls : Array Slot), xW D KA layR stR ad ids (xA ad ids s.heap.size) s.heap σ H locs → lv_has ls 4 [(0, .ref (ad 0)), (1, .int a1), (2, .int a2), (3, .int a3)] → W p l e rmX12_cell s m args below meth c H locs 0 0 Q (F0 m 0 ls []) := by
    intro H locs ls hW hl
    unfold wX12_cell at h
    refine lv_iload_n hx hb dX12_cell_0 rfl (lv_at hl 1 rfl) ?_
    refine x_calli (va_runS (As := [.int a1]) (rest := []) ⟨hx, hb, hml, hown, hts⟩ (J_X12_isSheet l hI h) (va_cwS 1 hts gX12_cell_X12_isSheet rfl rfl rfl hdS_X12_isSheet ⟨Nat.le_of_ble_eq_true rfl, Nat.le_of_ble_eq_true rfl⟩) (x_preS hK hZ hA hW) rfl rfl hl.1 rfl (lv_room (Nat.le_of_ble_eq_true rfl)) dX12_cell_1 ⟨Nat.zero_le _, Nat.zero_le _⟩) hW hA (fun r1002 σ1001 H locs h hW => ?_)
    try dsimp only at h
    refine lv_if_ne (tgt := 10) hx hb dX12_cell_4 (by decide) (fun c1003 => ?_) (fun c1003 => ?_)
    · have h := h.1 c1003
      refine lv_aload_n hx hb dX12_cell_10 rfl (lv_at hl 0 rfl) ?_
      refine xgX12_67r hx hb hts hown hK hW 0 hcX12_cell_X12 (hI 0 (by decide)) lR_0 (hts _ hwX12_cell_0) (sR_0_67 _) dX12_cell_11 ?_
      refine lv_iload_n hx hb dX12_cell_14 rfl (lv_at hl 1 rfl) ?_
      obtain ⟨hi1004, h⟩ := h
      refine x_zald hx hb hK hW 31 (hI 31 (by decide)) lR_31 hi1004 dX12_cell_15 ?_
      refine lv_if_ne (tgt := 22) hx hb dX12_cell_16 (by decide) (fun c1005 => ?_) (fun c1005 => ?_)
      · have h := h.1 c1005
        refine lv_iload_n hx hb dX12_cell_22 rfl (lv_at hl 2 rfl) ?_
        refine lv_i2l hx hb dX12_cell_23 rfl ?_
        refine lv_lconst (v := 0) hx hb dX12_cell_24 (by decide) ?_
        refine lv_aload_n hx hb dX12_cell_25 rfl (lv_at hl 0 rfl) ?_
        refine xgX12_69r hx hb hts hown hK hW 0 hcX12_cell_X12 (hI 0 (by decide)) lR_0 (hts _ hwX12_cell_1) (sR_0_69 _) dX12_cell_26 ?_
        refine lv_iload_n hx hb dX12_cell_29 rfl (lv_at hl 1 rfl) ?_
        refine x_iald hx hb hK hW 33 (hI 33 (by decide)) lR_33 hi1004 dX12_cell_30 ?_
        refine lv_iconst (v := 1) hx hb dX12_cell_31 (by decide) ?_
        refine lv_isub hx hb dX12_cell_32 ?_
        refine lv_i2l hx hb dX12_cell_33 rfl ?_
        refine x_calli (va_runS (As := [.long (a2.toInt64), .long (0 : Int64), .long (((gI σ1001 33 a1.toNatClampNeg) - (1 : Int32)).toInt64)]) (rest := []) ⟨hx, hb, hml, hown, hts⟩ (J_X12_in l hI h) (va_cwS 3 hts gX12_cell_X12_in rfl rfl rfl hdS_X12_in ⟨Nat.le_of_ble_eq_true rfl, Nat.le_of_ble_eq_true rfl⟩) (x_preS hK hZ hA hW) rfl rfl hl.1 rfl (lv_room (Nat.le_of_ble_eq_true rfl)) dX12_cell_34 ⟨Nat.zero_le _, Nat.zero_le _⟩) hW hA (fun r1008 σ1007 H locs h hW => ?_)
        try dsimp only at h
        refine lv_if_ne (tgt := 43) hx hb dX12_cell_37 (by decide) (fun c1009 => ?_) (fun c1009 => ?_)
        · have h := h.1 c1009
          refine lv_aload_n hx hb dX12_cell_43 rfl (lv_at hl 0 rfl) ?_
          refine xgX12_70r hx hb hts hown hK hW 0 hcX12_cell_X12 (hI 0 (by decide)) lR_0 (hts _ hwX12_cell_2) (sR_0_70 _) dX12_cell_44 ?_
          refine lv_bipush (v := 40) hx hb dX12_cell_47 (by decide) ?_
          refine lv_iload_n hx hb dX12_cell_49 rfl (lv_at hl 1 rfl) ?_
          refine lv_imul hx hb dX12_cell_50 ?_
          refine lv_iload_n hx hb dX12_cell_51 rfl (lv_at hl 2 rfl) ?_
          refine lv_iadd hx hb dX12_cell_52 ?_
          refine lv_aload_n hx hb dX12_cell_53 rfl (lv_at hl 0 rfl) ?_
          refine xgX12_68r hx hb hts hown hK hW 0 hcX12_cell_X12 (hI 0 (by decide)) lR_0 (hts _ hwX12_cell_3) (sR_0_68 _) dX12_cell_54 ?_
          refine lv_iload_n hx hb dX12_cell_57 rfl (lv_at hl 1 rfl) ?_
          refine x_iald hx hb hK hW 32 (hI 32 (by decide)) lR_32 hi1004 dX12_cell_58 ?_
          refine lv_if_ne (tgt := 67) hx hb dX12_cell_59 (by decide) (fun c1011 => ?_) (fun c1011 => ?_)
          · have h := h.1 c1011
            refine lv_aload_n hx hb dX12_cell_67 rfl (lv_at hl 0 rfl) ?_
            refine xgX12_68r hx hb hts hown hK hW 0 hcX12_cell_X12 (hI 0 (by decide)) lR_0 (hts _ hwX12_cell_3) (sR_0_68 _) dX12_cell_68 ?_
            refine lv_iload_n hx hb dX12_cell_71 rfl (lv_at hl 1 rfl) ?_
            refine x_iald hx hb hK hW 32 (hI 32 (by decide)) lR_32 hi1004 dX12_cell_72 ?_
            refine lv_iconst (v := 1) hx hb dX12_cell_73 (by decide) ?_
            refine lv_icmp_ne (tgt := 82) hx hb dX12_cell_74 (by decide) (fun c1013 => ?_) (fun c1013 => ?_)
            · have h := h.1 c1013
              refine lv_iload_n hx hb dX12_cell_82 rfl (lv_at hl 3 rfl) ?_
              exact blk83   (((40 : Int32) * a1) + a2) a3 _ _ _ _ hW (lv_sub hl [] rfl) h
            · have h := h.2 c1013
              refine lv_iload_n hx hb dX12_cell_77 rfl (lv_at hl 3 rfl) ?_
              refine lv_i2s hx hb dX12_cell_78 rfl ?_
              refine lv_goto (tgt := 83) hx hb dX12_cell_79 (by decide) ?_
              exact blk83   (((40 : Int32) * a1) + a2) (a3.toInt16.toInt32) _ _ _ _ hW (lv_sub hl [] rfl) h
          · have h := h.2 c1011
            refine lv_iload_n hx hb dX12_cell_62 rfl (lv_at hl 3 rfl) ?_
            refine lv_i2b hx hb dX12_cell_63 rfl ?_
            refine lv_goto (tgt := 83) hx hb dX12_cell_64 (by decide) ?_
            exact blk83   (((40 : Int32) * a1) + a2) (a3.toInt8.toInt32) _ _ _ _ hW (lv_sub hl [] rfl) h
        · have h := h.2 c1009
          refine lv_bipush (v := (-12)) hx hb dX12_cell_40 (by decide) ?_
          exact kr _ _ _ _ _ _ hW h dX12_cell_42
      · have h := h.2 c1005
        refine lv_bipush (v := (-11)) hx hb dX12_cell_19 (by decide) ?_
        exact kr _ _ _ _ _ _ hW h dX12_cell_21
    · have h := h.2 c1003
      refine lv_bipush (v := (-2)) hx hb dX12_cell_7 (by decide) ?_
      exact kr _ _ _ _ _ _ hW h dX12_cell_9
  exact main _ _ _ hW hl
theorem hwX12_isBelt_0 : (.fieldLink RX12 166 "FortyBeltsModel" "belts" "I" : Cond) ∈ wsX12_isBelt := (List.mem_cons_of_mem _ (List.mem_append_left _ (List.mem_of_getElem? (i := 0) rfl)))
theorem hcX12_isBelt_X12 : ∀ w ∈ wsX120, w ∈ wsX12_isBelt := fun _ h => (List.mem_cons_of_mem _ (List.mem_append_right _ h))
set_option maxHeartbeats 4000000 in
set_option maxRecDepth 100000 in
theorem J_X12_isBelt {D : va_G} {KA : Nat → ClassId} {zs : ZS} {ad : Nat → Nat} {ids : List Nat} {sz : Nat} (l : Launch) (hI : ∀ c, c < 35 → c ∈ ids) {a1 : Int32}  {σ : St} {post : Int32 → St → Prop} (h : wX12_isBelt  a1 σ post) : Met l yX12_isBelt wsX12_isBelt rmX12_isBelt (va_Pc [.ref (ad 0), .int a1] (xIn D KA zs layR stR ad ids sz σ)) (va_Qi post (xOut D KA layR stR ad ids) (xA ad ids sz)) 0 0 (xA ad ids sz) := by
  refine Met.ofW (cc := cX12_isBelt) (maxL := 2) (ret := (some .boolean)) (by decide) rfl ?_
  intro p e s m args below meth c s₁ B hml hv
  obtain ⟨hav, hsz, hK, hZ, hP, hD⟩ := hv
  have hx := B.exec
  have hb := B.bytes
  have hr := B.returns
  have hts := atoms_spec (ws := wsX12_isBelt) B.pre
  have hown : s.vm.findClass RX12 = some m.cls := findClass_of_methodNamed B.named
  have hlocks := B.notSynchronized
  subst hsz
  have hA : ∀ q : Nat, s.heap.size ≤ q → xA ad ids s.heap.size q := fun q h => Or.inr h
  have hW : xW D KA layR stR ad ids (xA ad ids s.heap.size) s.heap σ s.heap [] := ⟨hP, xA_D (D := D) hD, va_S.rf⟩
  have kr : ∀ (v : Int32) (σ : St) (H : Heap) (locs : List Loc) (ls : Array Slot) (pc : Nat), xW D KA layR stR ad ids (xA ad ids s.heap.size) s.heap σ H locs → isB v → post v σ → decode cX12_isBelt pc = .ok (.ireturn, 1) → W p l e rmX12_isBelt s m args below meth c H locs 0 0 (MQ below (va_Qi post (xOut D KA layR stR ad ids) (xA ad ids s.heap.size)) args s 0 0 (xA ad ids s.heap.size)) (F0 m pc ls [.int v]) := fun v σ H locs ls pc hW hz h hd => x_zret hx hb hr hlocks hW hz h hd
  have hl := lv_entry ([.ref (ad 0), .int a1]) (n := 2) (Nat.le_of_ble_eq_true rfl)
  rw [show entryFrame m args 2 = entryFrame m ([.ref (ad 0), .int a1] : List Value).toArray 2 from by rw [hav]]
  rw [lg_entry_eq]
  generalize (lg_sl ([.ref (ad 0), .int a1]) ++ List.replicate (2 - (lg_sl ([.ref (ad 0), .int a1])).length) Slot.unset).toArray = ls at hl ⊢
  have hl : lv_has ls 2 [(0, .ref (ad 0)), (1, .int a1)] := hl
  show W p l e rmX12_isBelt s m args below meth c s.heap [] 0 0 _ _
  generalize MQ below (va_Qi post (xOut D KA layR stR ad ids) (xA ad ids s.heap.size)) args s 0 0 (xA ad ids s.heap.size) = Q at kr ⊢
  have main : ∀ (H : Heap) (locs : List Loc) (ls : Array Slot), xW D KA layR stR ad ids (xA ad ids s.heap.size) s.heap σ H locs → lv_has ls 2 [(0, .ref (ad 0)), (1, .int a1)] → W p l e rmX12_isBelt s m args below meth c H locs 0 0 Q (F0 m 0 ls []) := by
    intro H locs ls hW hl
    unfold wX12_isBelt at h
    refine lv_iload_n hx hb dX12_isBelt_0 rfl (lv_at hl 1 rfl) ?_
    refine lv_i2l hx hb dX12_isBelt_1 rfl ?_
    refine lv_lconst (v := 0) hx hb dX12_isBelt_2 (by decide) ?_
    refine lv_aload_n hx hb dX12_isBelt_3 rfl (lv_at hl 0 rfl) ?_
    refine xgX12_28 hx hb hts hown hK hW 0 hcX12_isBelt_X12 (hI 0 (by decide)) lR_0 (hts _ hwX12_isBelt_0) dX12_isBelt_4 ?_
    refine lv_iconst (v := 1) hx hb dX12_isBelt_7 (by decide) ?_
    refine lv_isub hx hb dX12_isBelt_8 ?_
    refine lv_i2l hx hb dX12_isBelt_9 rfl ?_
    refine x_calli (va_runS (As := [.long (a1.toInt64), .long (0 : Int64), .long (((gI σ 0 28) - (1 : Int32)).toInt64)]) (rest := []) ⟨hx, hb, hml, hown, hts⟩ (J_X12_in l hI h) (va_cwS 3 hts gX12_isBelt_X12_in rfl rfl rfl hdS_X12_in ⟨Nat.le_of_ble_eq_true rfl, Nat.le_of_ble_eq_true rfl⟩) (x_preS hK hZ hA hW) rfl rfl hl.1 rfl (lv_room (Nat.le_of_ble_eq_true rfl)) dX12_isBelt_10 ⟨Nat.zero_le _, Nat.zero_le _⟩) hW hA (fun r1002 σ1001 H locs h hW => ?_)
    try dsimp only at h
    obtain ⟨hz1003, h⟩ := h
    exact kr _ _ _ _ _ _ hW hz1003 h dX12_isBelt_13
  exact main _ _ _ hW hl
theorem hwX12_change_0 : (.fieldLink RX12 62 "FortyBeltsModel" "drumB" "[I" : Cond) ∈ wsX12_change := (List.mem_cons_of_mem _ (List.mem_append_left _ (List.mem_of_getElem? (i := 0) rfl)))
theorem hwX12_change_1 : (.fieldLink RX12 59 "FortyBeltsModel" "drumA" "[I" : Cond) ∈ wsX12_change := (List.mem_cons_of_mem _ (List.mem_append_left _ (List.mem_of_getElem? (i := 1) rfl)))
theorem hcX12_change_X12 : ∀ w ∈ wsX120, w ∈ wsX12_change := fun _ h => (List.mem_cons_of_mem _ (List.mem_append_right _ h))
set_option maxHeartbeats 4000000 in
set_option maxRecDepth 100000 in
theorem J_X12_change {D : va_G} {KA : Nat → ClassId} {zs : ZS} {ad : Nat → Nat} {ids : List Nat} {sz : Nat} (l : Launch) (hI : ∀ c, c < 35 → c ∈ ids) {a1 : Int32} {a2 : Int32} {a3 : Int32}  {σ : St} {post : Int32 → St → Prop} (h : wX12_change  a1 a2 a3 σ post) : Met l yX12_change wsX12_change rmX12_change (va_Pc [.ref (ad 0), .int a1, .int a2, .int a3] (xIn D KA zs layR stR ad ids sz σ)) (va_Qi post (xOut D KA layR stR ad ids) (xA ad ids sz)) 0 0 (xA ad ids sz) := by
  refine Met.ofW (cc := cX12_change) (maxL := 5) (ret := (some .int)) (by decide) rfl ?_
  intro p e s m args below meth c s₁ B hml hv
  obtain ⟨hav, hsz, hK, hZ, hP, hD⟩ := hv
  have hx := B.exec
  have hb := B.bytes
  have hr := B.returns
  have hts := atoms_spec (ws := wsX12_change) B.pre
  have hown : s.vm.findClass RX12 = some m.cls := findClass_of_methodNamed B.named
  have hlocks := B.notSynchronized
  subst hsz
  have hA : ∀ q : Nat, s.heap.size ≤ q → xA ad ids s.heap.size q := fun q h => Or.inr h
  have hW : xW D KA layR stR ad ids (xA ad ids s.heap.size) s.heap σ s.heap [] := ⟨hP, xA_D (D := D) hD, va_S.rf⟩
  have kr : ∀ (v : Int32) (σ : St) (H : Heap) (locs : List Loc) (ls : Array Slot) (pc : Nat), xW D KA layR stR ad ids (xA ad ids s.heap.size) s.heap σ H locs → post v σ → decode cX12_change pc = .ok (.ireturn, 1) → W p l e rmX12_change s m args below meth c H locs 0 0 (MQ below (va_Qi post (xOut D KA layR stR ad ids) (xA ad ids s.heap.size)) args s 0 0 (xA ad ids s.heap.size)) (F0 m pc ls [.int v]) := fun v σ H locs ls pc hW h hd => x_iret hx hb hr hlocks hW h hd
  have hl := lv_entry ([.ref (ad 0), .int a1, .int a2, .int a3]) (n := 5) (Nat.le_of_ble_eq_true rfl)
  rw [show entryFrame m args 5 = entryFrame m ([.ref (ad 0), .int a1, .int a2, .int a3] : List Value).toArray 5 from by rw [hav]]
  rw [lg_entry_eq]
  generalize (lg_sl ([.ref (ad 0), .int a1, .int a2, .int a3]) ++ List.replicate (5 - (lg_sl ([.ref (ad 0), .int a1, .int a2, .int a3])).length) Slot.unset).toArray = ls at hl ⊢
  have hl : lv_has ls 5 [(0, .ref (ad 0)), (1, .int a1), (2, .int a2), (3, .int a3)] := hl
  show W p l e rmX12_change s m args below meth c s.heap [] 0 0 _ _
  generalize MQ below (va_Qi post (xOut D KA layR stR ad ids) (xA ad ids s.heap.size)) args s 0 0 (xA ad ids s.heap.size) = Q at kr ⊢
  have blk94 : ∀ (x4 : Int32) (σ : St) (H : Heap) (locs : List Loc) (ls : Array Slot), xW D KA layR stR ad ids (xA ad ids s.heap.size) s.heap σ H locs → lv_has ls 5 [(4, .int x4)] → wX12_change_94 post x4 σ → W p l e rmX12_change s m args below meth c H locs 0 0 Q (F0 m 94 ls []) := by
    intro   x4 σ H locs ls hW hl h
    unfold wX12_change_94 at h
    refine lv_iload hx hb dX12_change_94 (lv_at hl 0 rfl) ?_
    exact kr _ _ _ _ _ _ hW h dX12_change_96
  have blk71 : ∀ (x1 : Int32) (x2 : Int32) (x3 : Int32) (s0 : Int32) (σ : St) (H : Heap) (locs : List Loc) (ls : Array Slot), xW D KA layR stR ad ids (xA ad ids s.heap.size) s.heap σ H locs → lv_has ls 5 [(0, .ref (ad 0)), (1, .int x1), (2, .int x2), (3, .int x3)] → wX12_change_71 post x1 x2 x3 s0 σ → W p l e rmX12_change s m args below meth c H locs 0 0 Q (F0 m 71 ls [.int s0]) := by
    intro   x1 x2 x3 s0 σ H locs ls hW hl h
    unfold wX12_change_71 at h
    refine lv_istore (lv' := [(4, .int s0), (0, .ref (ad 0)), (1, .int x1), (2, .int x2), (3, .int x3)]) hx hb dX12_change_71 hl (by decide) rfl (fun ls hl => ?_)
    refine lv_iload_n hx hb dX12_change_73 rfl (lv_at hl 3 rfl) ?_
    refine lv_if_ne (tgt := 87) hx hb dX12_change_74 (by decide) (fun c1 => ?_) (fun c1 => ?_)
    · have h := h.1 c1
      refine lv_aload_n hx hb dX12_change_87 rfl (lv_at hl 1 rfl) ?_
      refine xgX12_25r hx hb hts hown hK hW 0 hcX12_change_X12 (hI 0 (by decide)) lR_0 (hts _ hwX12_change_0) (sR_0_25 _) dX12_change_88 ?_
      refine lv_iload_n hx hb dX12_change_91 rfl (lv_at hl 2 rfl) ?_
      refine lv_iload_n hx hb dX12_change_92 rfl (lv_at hl 4 rfl) ?_
      obtain ⟨hi2, h⟩ := h
      refine x_iast hx hb hK hW 17 (hI 17 (by decide)) lR_17 hi2 dX12_change_93 (fun σ3 H locs hσ3 hW => ?_)
      have h := h σ3 hσ3
      exact blk94   s0 _ _ _ _ hW (lv_sub hl [0] rfl) h
    · have h := h.2 c1
      refine lv_aload_n hx hb dX12_change_77 rfl (lv_at hl 1 rfl) ?_
      refine xgX12_24r hx hb hts hown hK hW 0 hcX12_change_X12 (hI 0 (by decide)) lR_0 (hts _ hwX12_change_1) (sR_0_24 _) dX12_change_78 ?_
      refine lv_iload_n hx hb dX12_change_81 rfl (lv_at hl 2 rfl) ?_
      refine lv_iload_n hx hb dX12_change_82 rfl (lv_at hl 4 rfl) ?_
      obtain ⟨hi4, h⟩ := h
      refine x_iast hx hb hK hW 16 (hI 16 (by decide)) lR_16 hi4 dX12_change_83 (fun σ5 H locs hσ5 hW => ?_)
      have h := h σ5 hσ5
      refine lv_goto (tgt := 94) hx hb dX12_change_84 (by decide) ?_
      exact blk94   s0 _ _ _ _ hW (lv_sub hl [0] rfl) h
  have blk49 : ∀ (σ : St) (H : Heap) (locs : List Loc) (ls : Array Slot), xW D KA layR stR ad ids (xA ad ids s.heap.size) s.heap σ H locs → lv_has ls 5 [] → wX12_change_49 post  σ → W p l e rmX12_change s m args below meth c H locs 0 0 Q (F0 m 49 ls []) := by
    intro    σ H locs ls hW hl h
    unfold wX12_change_49 at h
    refine lv_bipush (v := (-2)) hx hb dX12_change_49 (by decide) ?_
    exact kr _ _ _ _ _ _ hW h dX12_change_51
  have blk46 : ∀ (x1 : Int32) (x2 : Int32) (x3 : Int32) (s0 : Int32) (s1 : Int32) (σ : St) (H : Heap) (locs : List Loc) (ls : Array Slot), xW D KA layR stR ad ids (xA ad ids s.heap.size) s.heap σ H locs → lv_has ls 5 [(0, .ref (ad 0)), (1, .int x1), (2, .int x2), (3, .int x3)] → wX12_change_46 post x1 x2 x3 s0 s1 σ → W p l e rmX12_change s m args below meth c H locs 0 0 Q (F0 m 46 ls [.int s1, .int s0]) := by
    intro   x1 x2 x3 s0 s1 σ H locs ls hW hl h
    unfold wX12_change_46 at h
    refine lv_icmp_ne (tgt := 52) hx hb dX12_change_46 (by decide) (fun c6 => ?_) (fun c6 => ?_)
    · have h := h.1 c6
      refine lv_iload_n hx hb dX12_change_52 rfl (lv_at hl 2 rfl) ?_
      refine lv_if_ne (tgt := 65) hx hb dX12_change_53 (by decide) (fun c7 => ?_) (fun c7 => ?_)
      · have h := h.1 c7
        refine lv_aload_n hx hb dX12_change_65 rfl (lv_at hl 0 rfl) ?_
        refine xgX12_25r hx hb hts hown hK hW 0 hcX12_change_X12 (hI 0 (by decide)) lR_0 (hts _ hwX12_change_0) (sR_0_25 _) dX12_change_66 ?_
        refine lv_iload_n hx hb dX12_change_69 rfl (lv_at hl 1 rfl) ?_
        obtain ⟨hi8, h⟩ := h
        refine x_iald hx hb hK hW 17 (hI 17 (by decide)) lR_17 hi8 dX12_change_70 ?_
        exact blk71   x1 x2 x3 (gI σ 17 x1.toNatClampNeg) _ _ _ _ hW (lv_sub hl [0, 1, 2, 3] rfl) h
      · have h := h.2 c7
        refine lv_aload_n hx hb dX12_change_56 rfl (lv_at hl 0 rfl) ?_
        refine xgX12_24r hx hb hts hown hK hW 0 hcX12_change_X12 (hI 0 (by decide)) lR_0 (hts _ hwX12_change_1) (sR_0_24 _) dX12_change_57 ?_
        refine lv_iload_n hx hb dX12_change_60 rfl (lv_at hl 1 rfl) ?_
        obtain ⟨hi9, h⟩ := h
        refine x_iald hx hb hK hW 16 (hI 16 (by decide)) lR_16 hi9 dX12_change_61 ?_
        refine lv_goto (tgt := 71) hx hb dX12_change_62 (by decide) ?_
        exact blk71   x1 x2 x3 (gI σ 16 x1.toNatClampNeg) _ _ _ _ hW (lv_sub hl [0, 1, 2, 3] rfl) h
    · have h := h.2 c6
      exact blk49    _ _ _ _ hW (lv_sub hl [] rfl) h
  have main : ∀ (H : Heap) (locs : List Loc) (ls : Array Slot), xW D KA layR stR ad ids (xA ad ids s.heap.size) s.heap σ H locs → lv_has ls 5 [(0, .ref (ad 0)), (1, .int a1), (2, .int a2), (3, .int a3)] → W p l e rmX12_change s m args below meth c H locs 0 0 Q (F0 m 0 ls []) := by
    intro H locs ls hW hl
    unfold wX12_change at h
    refine lv_aload_n hx hb dX12_change_0 rfl (lv_at hl 0 rfl) ?_
    refine lv_iload_n hx hb dX12_change_1 rfl (lv_at hl 1 rfl) ?_
    refine x_calli (va_runV (As := [.int a1]) (rest := []) ⟨hx, hb, hml, hown, hts⟩ (J_X12_isBelt l hI h) (cwV 1 hts gX12_change_X12_isBelt rfl rfl rfl hdV_X12_isBelt ⟨Nat.le_of_ble_eq_true rfl, Nat.le_of_ble_eq_true rfl⟩) (x_preV (ci := 12) hK hZ hA hW (hI 0 (by decide)) lR_0 rfl) rfl rfl hl.1 rfl (lv_room (Nat.le_of_ble_eq_true rfl)) dX12_change_2 ⟨Nat.zero_le _, Nat.zero_le _⟩) hW hA (fun r1002 σ1001 H locs h hW => ?_)
    try dsimp only at h
    refine lv_if_eq (tgt := 49) hx hb dX12_change_5 (by decide) (fun c1003 => ?_) (fun c1003 => ?_)
    · have h := h.1 c1003
      exact blk49    _ _ _ _ hW (lv_sub hl [] rfl) h
    · have h := h.2 c1003
      refine lv_iload_n hx hb dX12_change_8 rfl (lv_at hl 2 rfl) ?_
      refine lv_i2l hx hb dX12_change_9 rfl ?_
      refine lv_lconst (v := 0) hx hb dX12_change_10 (by decide) ?_
      refine lv_lconst (v := 1) hx hb dX12_change_11 (by decide) ?_
      refine x_calli (va_runS (As := [.long (a2.toInt64), .long (0 : Int64), .long (1 : Int64)]) (rest := []) ⟨hx, hb, hml, hown, hts⟩ (J_X12_in l hI h) (va_cwS 3 hts gX12_change_X12_in rfl rfl rfl hdS_X12_in ⟨Nat.le_of_ble_eq_true rfl, Nat.le_of_ble_eq_true rfl⟩) (x_preS hK hZ hA hW) rfl rfl hl.1 rfl (lv_room (Nat.le_of_ble_eq_true rfl)) dX12_change_12 ⟨Nat.zero_le _, Nat.zero_le _⟩) hW hA (fun r1005 σ1004 H locs h hW => ?_)
      try dsimp only at h
      refine lv_if_eq (tgt := 49) hx hb dX12_change_15 (by decide) (fun c1006 => ?_) (fun c1006 => ?_)
      · have h := h.1 c1006
        exact blk49    _ _ _ _ hW (lv_sub hl [] rfl) h
      · have h := h.2 c1006
        refine lv_aload_n hx hb dX12_change_18 rfl (lv_at hl 0 rfl) ?_
        refine lv_iload_n hx hb dX12_change_19 rfl (lv_at hl 3 rfl) ?_
        refine x_calli (va_runV (As := [.int a3]) (rest := []) ⟨hx, hb, hml, hown, hts⟩ (J_X12_isDrum l hI h) (cwV 1 hts gX12_change_X12_isDrum rfl rfl rfl hdV_X12_isDrum ⟨Nat.le_of_ble_eq_true rfl, Nat.le_of_ble_eq_true rfl⟩) (x_preV (ci := 12) hK hZ hA hW (hI 0 (by decide)) lR_0 rfl) rfl rfl hl.1 rfl (lv_room (Nat.le_of_ble_eq_true rfl)) dX12_change_20 ⟨Nat.zero_le _, Nat.zero_le _⟩) hW hA (fun r1008 σ1007 H locs h hW => ?_)
        try dsimp only at h
        refine lv_if_eq (tgt := 49) hx hb dX12_change_23 (by decide) (fun c1009 => ?_) (fun c1009 => ?_)
        · have h := h.1 c1009
          exact blk49    _ _ _ _ hW (lv_sub hl [] rfl) h
        · have h := h.2 c1009
          refine lv_iload_n hx hb dX12_change_26 rfl (lv_at hl 3 rfl) ?_
          refine lv_iload_n hx hb dX12_change_27 rfl (lv_at hl 2 rfl) ?_
          refine lv_if_ne (tgt := 40) hx hb dX12_change_28 (by decide) (fun c1010 => ?_) (fun c1010 => ?_)
          · have h := h.1 c1010
            refine lv_aload_n hx hb dX12_change_40 rfl (lv_at hl 0 rfl) ?_
            refine xgX12_24r hx hb hts hown hK hW 0 hcX12_change_X12 (hI 0 (by decide)) lR_0 (hts _ hwX12_change_1) (sR_0_24 _) dX12_change_41 ?_
            refine lv_iload_n hx hb dX12_change_44 rfl (lv_at hl 1 rfl) ?_
            obtain ⟨hi1011, h⟩ := h
            refine x_iald hx hb hK hW 16 (hI 16 (by decide)) lR_16 hi1011 dX12_change_45 ?_
            exact blk46   a1 a2 a3 a3 (gI σ1007 16 a1.toNatClampNeg) _ _ _ _ hW (lv_sub hl [0, 1, 2, 3] rfl) h
          · have h := h.2 c1010
            refine lv_aload_n hx hb dX12_change_31 rfl (lv_at hl 0 rfl) ?_
            refine xgX12_25r hx hb hts hown hK hW 0 hcX12_change_X12 (hI 0 (by decide)) lR_0 (hts _ hwX12_change_0) (sR_0_25 _) dX12_change_32 ?_
            refine lv_iload_n hx hb dX12_change_35 rfl (lv_at hl 1 rfl) ?_
            obtain ⟨hi1012, h⟩ := h
            refine x_iald hx hb hK hW 17 (hI 17 (by decide)) lR_17 hi1012 dX12_change_36 ?_
            refine lv_goto (tgt := 46) hx hb dX12_change_37 (by decide) ?_
            exact blk46   a1 a2 a3 a3 (gI σ1007 17 a1.toNatClampNeg) _ _ _ _ hW (lv_sub hl [0, 1, 2, 3] rfl) h
  exact main _ _ _ hW hl
theorem hwX12_chosen_0 : (.fieldLink RX12 166 "FortyBeltsModel" "belts" "I" : Cond) ∈ wsX12_chosen := (List.mem_cons_of_mem _ (List.mem_append_left _ (List.mem_of_getElem? (i := 0) rfl)))
theorem hcX12_chosen_X12 : ∀ w ∈ wsX120, w ∈ wsX12_chosen := fun _ h => (List.mem_cons_of_mem _ (List.mem_append_right _ h))
set_option maxHeartbeats 4000000 in
set_option maxRecDepth 100000 in
theorem J_X12_chosen {D : va_G} {KA : Nat → ClassId} {zs : ZS} {ad : Nat → Nat} {ids : List Nat} {sz : Nat} (l : Launch) (hI : ∀ c, c < 35 → c ∈ ids)   {σ : St} {post : Int32 → St → Prop} (h : wX12_chosen   σ post) : Met l yX12_chosen wsX12_chosen rmX12_chosen (va_Pc [.ref (ad 0)] (xIn D KA zs layR stR ad ids sz σ)) (va_Qi post (xOut D KA layR stR ad ids) (xA ad ids sz)) 0 0 (xA ad ids sz) := by
  refine Met.ofW (cc := cX12_chosen) (maxL := 1) (ret := (some .int)) (by decide) rfl ?_
  intro p e s m args below meth c s₁ B hml hv
  obtain ⟨hav, hsz, hK, hZ, hP, hD⟩ := hv
  have hx := B.exec
  have hb := B.bytes
  have hr := B.returns
  have hts := atoms_spec (ws := wsX12_chosen) B.pre
  have hown : s.vm.findClass RX12 = some m.cls := findClass_of_methodNamed B.named
  have hlocks := B.notSynchronized
  subst hsz
  have hA : ∀ q : Nat, s.heap.size ≤ q → xA ad ids s.heap.size q := fun q h => Or.inr h
  have hW : xW D KA layR stR ad ids (xA ad ids s.heap.size) s.heap σ s.heap [] := ⟨hP, xA_D (D := D) hD, va_S.rf⟩
  have kr : ∀ (v : Int32) (σ : St) (H : Heap) (locs : List Loc) (ls : Array Slot) (pc : Nat), xW D KA layR stR ad ids (xA ad ids s.heap.size) s.heap σ H locs → post v σ → decode cX12_chosen pc = .ok (.ireturn, 1) → W p l e rmX12_chosen s m args below meth c H locs 0 0 (MQ below (va_Qi post (xOut D KA layR stR ad ids) (xA ad ids s.heap.size)) args s 0 0 (xA ad ids s.heap.size)) (F0 m pc ls [.int v]) := fun v σ H locs ls pc hW h hd => x_iret hx hb hr hlocks hW h hd
  have hl := lv_entry ([.ref (ad 0)]) (n := 1) (Nat.le_of_ble_eq_true rfl)
  rw [show entryFrame m args 1 = entryFrame m ([.ref (ad 0)] : List Value).toArray 1 from by rw [hav]]
  rw [lg_entry_eq]
  generalize (lg_sl ([.ref (ad 0)]) ++ List.replicate (1 - (lg_sl ([.ref (ad 0)])).length) Slot.unset).toArray = ls at hl ⊢
  have hl : lv_has ls 1 [(0, .ref (ad 0))] := hl
  show W p l e rmX12_chosen s m args below meth c s.heap [] 0 0 _ _
  generalize MQ below (va_Qi post (xOut D KA layR stR ad ids) (xA ad ids s.heap.size)) args s 0 0 (xA ad ids s.heap.size) = Q at kr ⊢
  have blk16 : ∀ (s0 : Int32) (σ : St) (H : Heap) (locs : List Loc) (ls : Array Slot), xW D KA layR stR ad ids (xA ad ids s.heap.size) s.heap σ H locs → lv_has ls 1 [] → wX12_chosen_16 post s0 σ → W p l e rmX12_chosen s m args below meth c H locs 0 0 Q (F0 m 16 ls [.int s0]) := by
    intro   s0 σ H locs ls hW hl h
    unfold wX12_chosen_16 at h
    exact kr _ _ _ _ _ _ hW h dX12_chosen_16
  have main : ∀ (H : Heap) (locs : List Loc) (ls : Array Slot), xW D KA layR stR ad ids (xA ad ids s.heap.size) s.heap σ H locs → lv_has ls 1 [(0, .ref (ad 0))] → W p l e rmX12_chosen s m args below meth c H locs 0 0 Q (F0 m 0 ls []) := by
    intro H locs ls hW hl
    unfold wX12_chosen at h
    refine lv_aload_n hx hb dX12_chosen_0 rfl (lv_at hl 0 rfl) ?_
    refine xgX12_28 hx hb hts hown hK hW 0 hcX12_chosen_X12 (hI 0 (by decide)) lR_0 (hts _ hwX12_chosen_0) dX12_chosen_1 ?_
    refine lv_iconst (v := 4) hx hb dX12_chosen_4 (by decide) ?_
    refine lv_icmp_ge (tgt := 15) hx hb dX12_chosen_5 (by decide) (fun c1001 => ?_) (fun c1001 => ?_)
    · have h := h.1 c1001
      refine lv_iconst (v := 4) hx hb dX12_chosen_15 (by decide) ?_
      exact blk16   (4 : Int32) _ _ _ _ hW (lv_sub hl [] rfl) h
    · have h := h.2 c1001
      refine lv_aload_n hx hb dX12_chosen_8 rfl (lv_at hl 0 rfl) ?_
      refine xgX12_28 hx hb hts hown hK hW 0 hcX12_chosen_X12 (hI 0 (by decide)) lR_0 (hts _ hwX12_chosen_0) dX12_chosen_9 ?_
      refine lv_goto (tgt := 16) hx hb dX12_chosen_12 (by decide) ?_
      exact blk16   (gI σ 0 28) _ _ _ _ hW (lv_sub hl [] rfl) h
  exact main _ _ _ hW hl
theorem hwX12_runsWell_0 : (.fieldLink RX12 29 "FortyBeltsModel" "shaftOf" "[I" : Cond) ∈ wsX12_runsWell := (List.mem_cons_of_mem _ (List.mem_append_left _ (List.mem_of_getElem? (i := 0) rfl)))
theorem hwX12_runsWell_1 : (.fieldLink RX12 44 "FortyBeltsModel" "isRun" "[I" : Cond) ∈ wsX12_runsWell := (List.mem_cons_of_mem _ (List.mem_append_left _ (List.mem_of_getElem? (i := 1) rfl)))
theorem hwX12_runsWell_2 : (.fieldLink RX12 74 "FortyBeltsModel" "above" "[J" : Cond) ∈ wsX12_runsWell := (List.mem_cons_of_mem _ (List.mem_append_left _ (List.mem_of_getElem? (i := 2) rfl)))
theorem hwX12_runsWell_3 : (.fieldLink RX12 35 "FortyBeltsModel" "wantsFrom" "[I" : Cond) ∈ wsX12_runsWell := (List.mem_cons_of_mem _ (List.mem_append_left _ (List.mem_of_getElem? (i := 3) rfl)))
theorem hwX12_runsWell_4 : (.fieldLink RX12 78 "FortyBeltsModel" "below" "[J" : Cond) ∈ wsX12_runsWell := (List.mem_cons_of_mem _ (List.mem_append_left _ (List.mem_of_getElem? (i := 4) rfl)))
theorem hwX12_runsWell_5 : (.fieldLink RX12 38 "FortyBeltsModel" "wantsTo" "[I" : Cond) ∈ wsX12_runsWell := (List.mem_cons_of_mem _ (List.mem_append_left _ (List.mem_of_getElem? (i := 5) rfl)))
theorem hcX12_runsWell_X12 : ∀ w ∈ wsX120, w ∈ wsX12_runsWell := fun _ h => (List.mem_cons_of_mem _ (List.mem_append_right _ h))
set_option maxHeartbeats 4000000 in
set_option maxRecDepth 100000 in
theorem J_X12_runsWell {D : va_G} {KA : Nat → ClassId} {zs : ZS} {ad : Nat → Nat} {ids : List Nat} {sz : Nat} (l : Launch) (hI : ∀ c, c < 35 → c ∈ ids) {a1 : Int32}  {σ : St} {post : Int32 → St → Prop} (h : wX12_runsWell  a1 σ post) : Met l yX12_runsWell wsX12_runsWell rmX12_runsWell (va_Pc [.ref (ad 0), .int a1] (xIn D KA zs layR stR ad ids sz σ)) (va_Qi post (xOut D KA layR stR ad ids) (xA ad ids sz)) 0 0 (xA ad ids sz) := by
  refine Met.ofW (cc := cX12_runsWell) (maxL := 3) (ret := (some .boolean)) (by decide) rfl ?_
  intro p e s m args below meth c s₁ B hml hv
  obtain ⟨hav, hsz, hK, hZ, hP, hD⟩ := hv
  have hx := B.exec
  have hb := B.bytes
  have hr := B.returns
  have hts := atoms_spec (ws := wsX12_runsWell) B.pre
  have hown : s.vm.findClass RX12 = some m.cls := findClass_of_methodNamed B.named
  have hlocks := B.notSynchronized
  subst hsz
  have hA : ∀ q : Nat, s.heap.size ≤ q → xA ad ids s.heap.size q := fun q h => Or.inr h
  have hW : xW D KA layR stR ad ids (xA ad ids s.heap.size) s.heap σ s.heap [] := ⟨hP, xA_D (D := D) hD, va_S.rf⟩
  have kr : ∀ (v : Int32) (σ : St) (H : Heap) (locs : List Loc) (ls : Array Slot) (pc : Nat), xW D KA layR stR ad ids (xA ad ids s.heap.size) s.heap σ H locs → isB v → post v σ → decode cX12_runsWell pc = .ok (.ireturn, 1) → W p l e rmX12_runsWell s m args below meth c H locs 0 0 (MQ below (va_Qi post (xOut D KA layR stR ad ids) (xA ad ids s.heap.size)) args s 0 0 (xA ad ids s.heap.size)) (F0 m pc ls [.int v]) := fun v σ H locs ls pc hW hz h hd => x_zret hx hb hr hlocks hW hz h hd
  have hl := lv_entry ([.ref (ad 0), .int a1]) (n := 3) (Nat.le_of_ble_eq_true rfl)
  rw [show entryFrame m args 3 = entryFrame m ([.ref (ad 0), .int a1] : List Value).toArray 3 from by rw [hav]]
  rw [lg_entry_eq]
  generalize (lg_sl ([.ref (ad 0), .int a1]) ++ List.replicate (3 - (lg_sl ([.ref (ad 0), .int a1])).length) Slot.unset).toArray = ls at hl ⊢
  have hl : lv_has ls 3 [(0, .ref (ad 0)), (1, .int a1)] := hl
  show W p l e rmX12_runsWell s m args below meth c s.heap [] 0 0 _ _
  generalize MQ below (va_Qi post (xOut D KA layR stR ad ids) (xA ad ids s.heap.size)) args s 0 0 (xA ad ids s.heap.size) = Q at kr ⊢
  have blk69 : ∀ (s0 : Int32) (σ : St) (H : Heap) (locs : List Loc) (ls : Array Slot), xW D KA layR stR ad ids (xA ad ids s.heap.size) s.heap σ H locs → lv_has ls 3 [] → wX12_runsWell_69 post s0 σ → W p l e rmX12_runsWell s m args below meth c H locs 0 0 Q (F0 m 69 ls [.int s0]) := by
    intro   s0 σ H locs ls hW hl h
    unfold wX12_runsWell_69 at h
    obtain ⟨hz1, h⟩ := h
    exact kr _ _ _ _ _ _ hW hz1 h dX12_runsWell_69
  have blk68 : ∀ (σ : St) (H : Heap) (locs : List Loc) (ls : Array Slot), xW D KA layR stR ad ids (xA ad ids s.heap.size) s.heap σ H locs → lv_has ls 3 [] → wX12_runsWell_68 post  σ → W p l e rmX12_runsWell s m args below meth c H locs 0 0 Q (F0 m 68 ls []) := by
    intro    σ H locs ls hW hl h
    unfold wX12_runsWell_68 at h
    refine lv_iconst (v := 0) hx hb dX12_runsWell_68 (by decide) ?_
    exact blk69   (0 : Int32) _ _ _ _ hW (lv_sub hl [] rfl) h
  have blk64 : ∀ (σ : St) (H : Heap) (locs : List Loc) (ls : Array Slot), xW D KA layR stR ad ids (xA ad ids s.heap.size) s.heap σ H locs → lv_has ls 3 [] → wX12_runsWell_64 post  σ → W p l e rmX12_runsWell s m args below meth c H locs 0 0 Q (F0 m 64 ls []) := by
    intro    σ H locs ls hW hl h
    unfold wX12_runsWell_64 at h
    refine lv_iconst (v := 1) hx hb dX12_runsWell_64 (by decide) ?_
    refine lv_goto (tgt := 69) hx hb dX12_runsWell_65 (by decide) ?_
    exact blk69   (1 : Int32) _ _ _ _ hW (lv_sub hl [] rfl) h
  have main : ∀ (H : Heap) (locs : List Loc) (ls : Array Slot), xW D KA layR stR ad ids (xA ad ids s.heap.size) s.heap σ H locs → lv_has ls 3 [(0, .ref (ad 0)), (1, .int a1)] → W p l e rmX12_runsWell s m args below meth c H locs 0 0 Q (F0 m 0 ls []) := by
    intro H locs ls hW hl
    unfold wX12_runsWell at h
    refine lv_aload_n hx hb dX12_runsWell_0 rfl (lv_at hl 0 rfl) ?_
    refine xgX12_12r hx hb hts hown hK hW 0 hcX12_runsWell_X12 (hI 0 (by decide)) lR_0 (hts _ hwX12_runsWell_0) (sR_0_12 _) dX12_runsWell_1 ?_
    refine lv_iload_n hx hb dX12_runsWell_4 rfl (lv_at hl 1 rfl) ?_
    obtain ⟨hi1001, h⟩ := h
    refine x_iald hx hb hK hW 6 (hI 6 (by decide)) lR_6 hi1001 dX12_runsWell_5 ?_
    refine lv_topi (fun v1002 hv1002 => ?_)
    have h := h v1002 hv1002
    refine lv_istore_n (lv' := [(2, .int v1002), (0, .ref (ad 0)), (1, .int a1)]) hx hb dX12_runsWell_6 rfl hl (by decide) rfl (fun ls hl => ?_)
    refine lv_aload_n hx hb dX12_runsWell_7 rfl (lv_at hl 1 rfl) ?_
    refine xgX12_17r hx hb hts hown hK hW 0 hcX12_runsWell_X12 (hI 0 (by decide)) lR_0 (hts _ hwX12_runsWell_1) (sR_0_17 _) dX12_runsWell_8 ?_
    refine lv_iload_n hx hb dX12_runsWell_11 rfl (lv_at hl 2 rfl) ?_
    refine x_iald hx hb hK hW 11 (hI 11 (by decide)) lR_11 hi1001 dX12_runsWell_12 ?_
    refine lv_if_eq (tgt := 64) hx hb dX12_runsWell_13 (by decide) (fun c1004 => ?_) (fun c1004 => ?_)
    · have h := h.1 c1004
      exact blk64    _ _ _ _ hW (lv_sub hl [] rfl) h
    · have h := h.2 c1004
      refine lv_aload_n hx hb dX12_runsWell_16 rfl (lv_at hl 1 rfl) ?_
      refine xgX12_31r hx hb hts hown hK hW 0 hcX12_runsWell_X12 (hI 0 (by decide)) lR_0 (hts _ hwX12_runsWell_2) (sR_0_31 _) dX12_runsWell_17 ?_
      refine lv_iload_n hx hb dX12_runsWell_20 rfl (lv_at hl 0 rfl) ?_
      obtain ⟨hi1005, h⟩ := h
      refine x_lald hx hb hK hW 20 (hI 20 (by decide)) lR_20 hi1005 dX12_runsWell_21 ?_
      refine lv_aload_n hx hb dX12_runsWell_22 rfl (lv_at hl 1 rfl) ?_
      refine xgX12_14r hx hb hts hown hK hW 0 hcX12_runsWell_X12 (hI 0 (by decide)) lR_0 (hts _ hwX12_runsWell_3) (sR_0_14 _) dX12_runsWell_23 ?_
      refine lv_iload_n hx hb dX12_runsWell_26 rfl (lv_at hl 2 rfl) ?_
      refine x_iald hx hb hK hW 8 (hI 8 (by decide)) lR_8 hi1001 dX12_runsWell_27 ?_
      refine lv_i2l hx hb dX12_runsWell_28 rfl ?_
      refine lv_aload_n hx hb dX12_runsWell_29 rfl (lv_at hl 1 rfl) ?_
      refine xgX12_32r hx hb hts hown hK hW 0 hcX12_runsWell_X12 (hI 0 (by decide)) lR_0 (hts _ hwX12_runsWell_4) (sR_0_32 _) dX12_runsWell_30 ?_
      refine lv_iload_n hx hb dX12_runsWell_33 rfl (lv_at hl 0 rfl) ?_
      refine x_lald hx hb hK hW 21 (hI 21 (by decide)) lR_21 hi1005 dX12_runsWell_34 ?_
      refine lv_lmul hx hb dX12_runsWell_35 ?_
      refine W.lcmp hx hb dX12_runsWell_36 ?_
      refine lv_if_lt (tgt := 68) hx hb dX12_runsWell_37 (by decide) (fun c1008 => ?_) (fun c1008 => ?_)
      · have h := h.1 c1008
        exact blk68    _ _ _ _ hW (lv_sub hl [] rfl) h
      · have h := h.2 c1008
        refine lv_aload_n hx hb dX12_runsWell_40 rfl (lv_at hl 1 rfl) ?_
        refine xgX12_31r hx hb hts hown hK hW 0 hcX12_runsWell_X12 (hI 0 (by decide)) lR_0 (hts _ hwX12_runsWell_2) (sR_0_31 _) dX12_runsWell_41 ?_
        refine lv_iload_n hx hb dX12_runsWell_44 rfl (lv_at hl 0 rfl) ?_
        refine x_lald hx hb hK hW 20 (hI 20 (by decide)) lR_20 hi1005 dX12_runsWell_45 ?_
        refine lv_aload_n hx hb dX12_runsWell_46 rfl (lv_at hl 1 rfl) ?_
        refine xgX12_15r hx hb hts hown hK hW 0 hcX12_runsWell_X12 (hI 0 (by decide)) lR_0 (hts _ hwX12_runsWell_5) (sR_0_15 _) dX12_runsWell_47 ?_
        refine lv_iload_n hx hb dX12_runsWell_50 rfl (lv_at hl 2 rfl) ?_
        refine x_iald hx hb hK hW 9 (hI 9 (by decide)) lR_9 hi1001 dX12_runsWell_51 ?_
        refine lv_i2l hx hb dX12_runsWell_52 rfl ?_
        refine lv_aload_n hx hb dX12_runsWell_53 rfl (lv_at hl 1 rfl) ?_
        refine xgX12_32r hx hb hts hown hK hW 0 hcX12_runsWell_X12 (hI 0 (by decide)) lR_0 (hts _ hwX12_runsWell_4) (sR_0_32 _) dX12_runsWell_54 ?_
        refine lv_iload_n hx hb dX12_runsWell_57 rfl (lv_at hl 0 rfl) ?_
        refine x_lald hx hb hK hW 21 (hI 21 (by decide)) lR_21 hi1005 dX12_runsWell_58 ?_
        refine lv_lmul hx hb dX12_runsWell_59 ?_
        refine W.lcmp hx hb dX12_runsWell_60 ?_
        refine lv_if_gt (tgt := 68) hx hb dX12_runsWell_61 (by decide) (fun c1012 => ?_) (fun c1012 => ?_)
        · have h := h.1 c1012
          exact blk68    _ _ _ _ hW (lv_sub hl [] rfl) h
        · have h := h.2 c1012
          exact blk64    _ _ _ _ hW (lv_sub hl [] rfl) h
  exact main _ _ _ hW hl
theorem hwX12_wells_0 : (.fieldLink RX12 160 "FortyBeltsModel" "machines" "I" : Cond) ∈ wsX12_wells := (List.mem_cons_of_mem _ (List.mem_append_left _ (List.mem_append_left _ (List.mem_of_getElem? (i := 0) rfl))))
theorem hcX12_wells_X12 : ∀ w ∈ wsX120, w ∈ wsX12_wells := fun _ h => (List.mem_cons_of_mem _ (List.mem_append_right _ h))
set_option maxHeartbeats 4000000 in
set_option maxRecDepth 100000 in
theorem J_X12_wells {D : va_G} {KA : Nat → ClassId} {zs : ZS} {ad : Nat → Nat} {ids : List Nat} {sz : Nat} (l : Launch) (hI : ∀ c, c < 35 → c ∈ ids)   {σ : St} {post : Int32 → St → Prop} (h : wX12_wells   σ post) : Met l yX12_wells wsX12_wells rmX12_wells (va_Pc [.ref (ad 0)] (xIn D KA zs layR stR ad ids sz σ)) (va_Qi post (xOut D KA layR stR ad ids) (xA ad ids sz)) 0 0 (xA ad ids sz) := by
  refine Met.ofW (cc := cX12_wells) (maxL := 3) (ret := (some .int)) (by decide) rfl ?_
  intro p e s m args below meth c s₁ B hml hv
  obtain ⟨hav, hsz, hK, hZ, hP, hD⟩ := hv
  have hx := B.exec
  have hb := B.bytes
  have hr := B.returns
  have hts := atoms_spec (ws := wsX12_wells) B.pre
  have hown : s.vm.findClass RX12 = some m.cls := findClass_of_methodNamed B.named
  have hlocks := B.notSynchronized
  subst hsz
  have hA : ∀ q : Nat, s.heap.size ≤ q → xA ad ids s.heap.size q := fun q h => Or.inr h
  have hW : xW D KA layR stR ad ids (xA ad ids s.heap.size) s.heap σ s.heap [] := ⟨hP, xA_D (D := D) hD, va_S.rf⟩
  have kr : ∀ (v : Int32) (σ : St) (H : Heap) (locs : List Loc) (ls : Array Slot) (pc : Nat), xW D KA layR stR ad ids (xA ad ids s.heap.size) s.heap σ H locs → post v σ → decode cX12_wells pc = .ok (.ireturn, 1) → W p l e rmX12_wells s m args below meth c H locs 0 0 (MQ below (va_Qi post (xOut D KA layR stR ad ids) (xA ad ids s.heap.size)) args s 0 0 (xA ad ids s.heap.size)) (F0 m pc ls [.int v]) := fun v σ H locs ls pc hW h hd => x_iret hx hb hr hlocks hW h hd
  have hl := lv_entry ([.ref (ad 0)]) (n := 3) (Nat.le_of_ble_eq_true rfl)
  rw [show entryFrame m args 3 = entryFrame m ([.ref (ad 0)] : List Value).toArray 3 from by rw [hav]]
  rw [lg_entry_eq]
  generalize (lg_sl ([.ref (ad 0)]) ++ List.replicate (3 - (lg_sl ([.ref (ad 0)])).length) Slot.unset).toArray = ls at hl ⊢
  have hl : lv_has ls 3 [(0, .ref (ad 0))] := hl
  show W p l e rmX12_wells s m args below meth c s.heap [] 0 0 _ _
  generalize MQ below (va_Qi post (xOut D KA layR stR ad ids) (xA ad ids s.heap.size)) args s 0 0 (xA ad ids s.heap.size) = Q at kr ⊢
  have blk30 : ∀ (k8 : Int32 → Int32 → St → Prop) (hk8 : ∀ (x1 : Int32) (x2 : Int32) (σ : St) (H : Heap) (locs : List Loc) (ls : Array Slot), xW D KA layR stR ad ids (xA ad ids s.heap.size) s.heap σ H locs → lv_has ls 3 [(0, .ref (ad 0)), (1, .int x1), (2, .int x2)] → k8 x1 x2 σ → W p l e rmX12_wells s m args below meth c H locs 0 0 Q (F0 m 8 ls [])) (x2 : Int32) (s0 : Int32) (s1 : Int32) (σ : St) (H : Heap) (locs : List Loc) (ls : Array Slot), xW D KA layR stR ad ids (xA ad ids s.heap.size) s.heap σ H locs → lv_has ls 3 [(0, .ref (ad 0)), (2, .int x2)] → wX12_wells_30 k8 post x2 s0 s1 σ → W p l e rmX12_wells s m args below meth c H locs 0 0 Q (F0 m 30 ls [.int s1, .int s0]) := by
    intro  k8 hk8 x2 s0 s1 σ H locs ls hW hl h
    unfold wX12_wells_30 at h
    refine lv_iadd hx hb dX12_wells_30 ?_
    refine lv_topi (fun v1 hv1 => ?_)
    have h := h v1 hv1
    refine lv_istore_n (lv' := [(1, .int v1), (0, .ref (ad 0)), (2, .int x2)]) hx hb dX12_wells_31 rfl hl (by decide) rfl (fun ls hl => ?_)
    obtain ⟨v2, hv2⟩ : ∃ y : Int32, y = x2 + (1 : Int32) := ⟨_, rfl⟩
    have h := h v2 hv2
    refine lv_iinc (v := v2) (lv' := [(2, .int v2), (1, .int v1), (0, .ref (ad 0))]) hx hb dX12_wells_32 hl (k := 2) rfl (by rw [hv2]; rfl) (by decide) rfl (fun ls hl => ?_)
    refine lv_goto (tgt := 8) hx hb dX12_wells_35 (by decide) ?_
    exact hk8 v1 v2 _ _ _ _ hW (lv_sub hl [2, 1, 0] rfl) h
  have blk8 : ∀ (n : Nat) (x1 : Int32) (x2 : Int32) (σ : St) (H : Heap) (locs : List Loc) (ls : Array Slot), xW D KA layR stR ad ids (xA ad ids s.heap.size) s.heap σ H locs → lv_has ls 3 [(0, .ref (ad 0)), (1, .int x1), (2, .int x2)] → wX12_wells_8 post  n x1 x2 σ → W p l e rmX12_wells s m args below meth c H locs 0 0 Q (F0 m 8 ls []) := by
    intro    n
    induction n with
    | zero => intro x1 x2 σ H locs ls hW hl h; exact (h : False).elim
    | succ n ih =>
      intro x1 x2 σ H locs ls hW hl h
      have hk8 : ∀ (x1 : Int32) (x2 : Int32) (σ : St) (H : Heap) (locs : List Loc) (ls : Array Slot), xW D KA layR stR ad ids (xA ad ids s.heap.size) s.heap σ H locs → lv_has ls 3 [(0, .ref (ad 0)), (1, .int x1), (2, .int x2)] → (wX12_wells_8 post  n) x1 x2 σ → W p l e rmX12_wells s m args below meth c H locs 0 0 Q (F0 m 8 ls []) := fun x1 x2 σ H locs ls hW hl h => ih x1 x2 σ H locs ls hW hl h
      rw [wX12_wells_8_s] at h
      try dsimp only at h
      generalize wX12_wells_8 post  n = k8 at h hk8
      refine lv_iload_n hx hb dX12_wells_8 rfl (lv_at hl 2 rfl) ?_
      refine lv_aload_n hx hb dX12_wells_9 rfl (lv_at hl 0 rfl) ?_
      refine xgX12_18 hx hb hts hown hK hW 0 hcX12_wells_X12 (hI 0 (by decide)) lR_0 (hts _ hwX12_wells_0) dX12_wells_10 ?_
      refine lv_icmp_ge (tgt := 38) hx hb dX12_wells_13 (by decide) (fun c3 => ?_) (fun c3 => ?_)
      · have h := h.1 c3
        refine lv_iload_n hx hb dX12_wells_38 rfl (lv_at hl 1 rfl) ?_
        exact kr _ _ _ _ _ _ hW h dX12_wells_39
      · have h := h.2 c3
        refine lv_iload_n hx hb dX12_wells_16 rfl (lv_at hl 1 rfl) ?_
        refine lv_aload_n hx hb dX12_wells_17 rfl (lv_at hl 0 rfl) ?_
        refine lv_iload_n hx hb dX12_wells_18 rfl (lv_at hl 2 rfl) ?_
        refine x_calli (va_runV (As := [.int x2]) (rest := [.int x1]) ⟨hx, hb, hml, hown, hts⟩ (J_X12_runsWell l hI h) (cwV 1 hts gX12_wells_X12_runsWell rfl rfl rfl hdV_X12_runsWell ⟨Nat.le_of_ble_eq_true rfl, Nat.le_of_ble_eq_true rfl⟩) (x_preV (ci := 12) hK hZ hA hW (hI 0 (by decide)) lR_0 rfl) rfl rfl hl.1 rfl (lv_room (Nat.le_of_ble_eq_true rfl)) dX12_wells_19 ⟨Nat.zero_le _, Nat.zero_le _⟩) hW hA (fun r5 σ4 H locs h hW => ?_)
        try dsimp only at h
        refine lv_if_eq (tgt := 29) hx hb dX12_wells_22 (by decide) (fun c6 => ?_) (fun c6 => ?_)
        · have h := h.1 c6
          refine lv_iconst (v := 0) hx hb dX12_wells_29 (by decide) ?_
          exact blk30  k8 hk8 x2 x1 (0 : Int32) _ _ _ _ hW (lv_sub hl [0, 2] rfl) h
        · have h := h.2 c6
          refine lv_iconst (v := 1) hx hb dX12_wells_25 (by decide) ?_
          refine lv_goto (tgt := 30) hx hb dX12_wells_26 (by decide) ?_
          exact blk30  k8 hk8 x2 x1 (1 : Int32) _ _ _ _ hW (lv_sub hl [0, 2] rfl) h
  have main : ∀ (H : Heap) (locs : List Loc) (ls : Array Slot), xW D KA layR stR ad ids (xA ad ids s.heap.size) s.heap σ H locs → lv_has ls 3 [(0, .ref (ad 0))] → W p l e rmX12_wells s m args below meth c H locs 0 0 Q (F0 m 0 ls []) := by
    intro H locs ls hW hl
    unfold wX12_wells at h
    refine lv_aload_n hx hb dX12_wells_0 rfl (lv_at hl 0 rfl) ?_
    refine x_callv (va_runV (As := []) (rest := []) ⟨hx, hb, hml, hown, hts⟩ (J_X12_lays l hI h) (cwV 0 hts gX12_wells_X12_lays rfl rfl rfl hdV_X12_lays ⟨Nat.le_of_ble_eq_true rfl, Nat.le_of_ble_eq_true rfl⟩) (x_preV (ci := 12) hK hZ hA hW (hI 0 (by decide)) lR_0 rfl) rfl rfl hl.1 rfl (lv_room (Nat.le_of_ble_eq_true rfl)) dX12_wells_1 ⟨Nat.zero_le _, Nat.zero_le _⟩) hW hA (fun σ1001 H locs h hW => ?_)
    try dsimp only at h
    refine lv_iconst (v := 0) hx hb dX12_wells_4 (by decide) ?_
    refine lv_istore_n (lv' := [(1, .int (0 : Int32)), (0, .ref (ad 0))]) hx hb dX12_wells_5 rfl hl (by decide) rfl (fun ls hl => ?_)
    refine lv_iconst (v := 0) hx hb dX12_wells_6 (by decide) ?_
    refine lv_istore_n (lv' := [(2, .int (0 : Int32)), (1, .int (0 : Int32)), (0, .ref (ad 0))]) hx hb dX12_wells_7 rfl hl (by decide) rfl (fun ls hl => ?_)
    obtain ⟨n, h⟩ := h
    exact blk8    n (0 : Int32) (0 : Int32) _ _ _ _ hW (lv_sub hl [2, 1, 0] rfl) h
  exact main _ _ _ hW hl
theorem hwX12_chooses_0 : (.fieldLink RX12 420 "FortyBeltsModel" "bestWells" "I" : Cond) ∈ wsX12_chooses := (List.mem_cons_of_mem _ (List.mem_append_left _ (List.mem_append_left _ (List.mem_of_getElem? (i := 3) rfl))))
theorem hwX12_chooses_1 : (.fieldLink RX12 62 "FortyBeltsModel" "drumB" "[I" : Cond) ∈ wsX12_chooses := (List.mem_cons_of_mem _ (List.mem_append_left _ (List.mem_append_left _ (List.mem_of_getElem? (i := 1) rfl))))
theorem hwX12_chooses_2 : (.fieldLink RX12 87 "FortyBeltsModel" "had" "[I" : Cond) ∈ wsX12_chooses := (List.mem_cons_of_mem _ (List.mem_append_left _ (List.mem_append_left _ (List.mem_of_getElem? (i := 0) rfl))))
theorem hwX12_chooses_3 : (.fieldLink RX12 90 "FortyBeltsModel" "bestDrum" "[I" : Cond) ∈ wsX12_chooses := (List.mem_cons_of_mem _ (List.mem_append_left _ (List.mem_append_left _ (List.mem_of_getElem? (i := 5) rfl))))
theorem hwX12_chooses_4 : (.fieldLink RX12 429 "FortyBeltsModel" "bestChanged" "I" : Cond) ∈ wsX12_chooses := (List.mem_cons_of_mem _ (List.mem_append_left _ (List.mem_append_left _ (List.mem_of_getElem? (i := 4) rfl))))
theorem hwX12_chooses_5 : (.fieldLink RX12 163 "FortyBeltsModel" "drumMany" "I" : Cond) ∈ wsX12_chooses := (List.mem_cons_of_mem _ (List.mem_append_left _ (List.mem_append_left _ (List.mem_of_getElem? (i := 2) rfl))))
theorem hcX12_chooses_X12 : ∀ w ∈ wsX120, w ∈ wsX12_chooses := fun _ h => (List.mem_cons_of_mem _ (List.mem_append_right _ h))
set_option maxHeartbeats 4000000 in
set_option maxRecDepth 100000 in
theorem J_X12_chooses {D : va_G} {KA : Nat → ClassId} {zs : ZS} {ad : Nat → Nat} {ids : List Nat} {sz : Nat} (l : Launch) (hI : ∀ c, c < 35 → c ∈ ids)   {σ : St} {post : Int32 → St → Prop} (h : wX12_chooses   σ post) : Met l yX12_chooses wsX12_chooses rmX12_chooses (va_Pc [.ref (ad 0)] (xIn D KA zs layR stR ad ids sz σ)) (va_Qi post (xOut D KA layR stR ad ids) (xA ad ids sz)) 0 0 (xA ad ids sz) := by
  refine Met.ofW (cc := cX12_chooses) (maxL := 8) (ret := (some .boolean)) (by decide) rfl ?_
  intro p e s m args below meth c s₁ B hml hv
  obtain ⟨hav, hsz, hK, hZ, hP, hD⟩ := hv
  have hx := B.exec
  have hb := B.bytes
  have hr := B.returns
  have hts := atoms_spec (ws := wsX12_chooses) B.pre
  have hown : s.vm.findClass RX12 = some m.cls := findClass_of_methodNamed B.named
  have hlocks := B.notSynchronized
  subst hsz
  have hA : ∀ q : Nat, s.heap.size ≤ q → xA ad ids s.heap.size q := fun q h => Or.inr h
  have hW : xW D KA layR stR ad ids (xA ad ids s.heap.size) s.heap σ s.heap [] := ⟨hP, xA_D (D := D) hD, va_S.rf⟩
  have kr : ∀ (v : Int32) (σ : St) (H : Heap) (locs : List Loc) (ls : Array Slot) (pc : Nat), xW D KA layR stR ad ids (xA ad ids s.heap.size) s.heap σ H locs → isB v → post v σ → decode cX12_chooses pc = .ok (.ireturn, 1) → W p l e rmX12_chooses s m args below meth c H locs 0 0 (MQ below (va_Qi post (xOut D KA layR stR ad ids) (xA ad ids s.heap.size)) args s 0 0 (xA ad ids s.heap.size)) (F0 m pc ls [.int v]) := fun v σ H locs ls pc hW hz h hd => x_zret hx hb hr hlocks hW hz h hd
  have hl := lv_entry ([.ref (ad 0)]) (n := 8) (Nat.le_of_ble_eq_true rfl)
  rw [show entryFrame m args 8 = entryFrame m ([.ref (ad 0)] : List Value).toArray 8 from by rw [hav]]
  rw [lg_entry_eq]
  generalize (lg_sl ([.ref (ad 0)]) ++ List.replicate (8 - (lg_sl ([.ref (ad 0)])).length) Slot.unset).toArray = ls at hl ⊢
  have hl : lv_has ls 8 [(0, .ref (ad 0))] := hl
  show W p l e rmX12_chooses s m args below meth c s.heap [] 0 0 _ _
  generalize MQ below (va_Qi post (xOut D KA layR stR ad ids) (xA ad ids s.heap.size)) args s 0 0 (xA ad ids s.heap.size) = Q at kr ⊢
  have blk254 : ∀ (s0 : Int32) (σ : St) (H : Heap) (locs : List Loc) (ls : Array Slot), xW D KA layR stR ad ids (xA ad ids s.heap.size) s.heap σ H locs → lv_has ls 8 [] → wX12_chooses_254 post s0 σ → W p l e rmX12_chooses s m args below meth c H locs 0 0 Q (F0 m 254 ls [.int s0]) := by
    intro   s0 σ H locs ls hW hl h
    unfold wX12_chooses_254 at h
    obtain ⟨hz1, h⟩ := h
    exact kr _ _ _ _ _ _ hW hz1 h dX12_chooses_254
  have blk218 : ∀ (x1 : Int32) (n : Nat) (x3 : Int32) (σ : St) (H : Heap) (locs : List Loc) (ls : Array Slot), xW D KA layR stR ad ids (xA ad ids s.heap.size) s.heap σ H locs → lv_has ls 8 [(0, .ref (ad 0)), (1, .int x1), (3, .int x3)] → wX12_chooses_218 post x1 n x3 σ → W p l e rmX12_chooses s m args below meth c H locs 0 0 Q (F0 m 218 ls []) := by
    intro   x1 n
    induction n with
    | zero => intro x3 σ H locs ls hW hl h; exact (h : False).elim
    | succ n ih =>
      intro x3 σ H locs ls hW hl h
      have hk218 : ∀ (x3 : Int32) (σ : St) (H : Heap) (locs : List Loc) (ls : Array Slot), xW D KA layR stR ad ids (xA ad ids s.heap.size) s.heap σ H locs → lv_has ls 8 [(0, .ref (ad 0)), (1, .int x1), (3, .int x3)] → (wX12_chooses_218 post x1 n) x3 σ → W p l e rmX12_chooses s m args below meth c H locs 0 0 Q (F0 m 218 ls []) := fun x3 σ H locs ls hW hl h => ih x3 σ H locs ls hW hl h
      rw [wX12_chooses_218_s] at h
      try dsimp only at h
      generalize wX12_chooses_218 post x1 n = k218 at h hk218
      refine lv_iload_n hx hb dX12_chooses_218 rfl (lv_at hl 2 rfl) ?_
      refine lv_iload_n hx hb dX12_chooses_219 rfl (lv_at hl 1 rfl) ?_
      refine lv_icmp_ge (tgt := 241) hx hb dX12_chooses_220 (by decide) (fun c2 => ?_) (fun c2 => ?_)
      · have h := h.1 c2
        refine lv_aload_n hx hb dX12_chooses_241 rfl (lv_at hl 0 rfl) ?_
        refine xgX12_53 hx hb hts hown hK hW 0 hcX12_chooses_X12 (hI 0 (by decide)) lR_0 (hts _ hwX12_chooses_0) dX12_chooses_242 ?_
        refine lv_iconst (v := (-1)) hx hb dX12_chooses_245 (by decide) ?_
        refine lv_icmp_eq (tgt := 253) hx hb dX12_chooses_246 (by decide) (fun c3 => ?_) (fun c3 => ?_)
        · have h := h.1 c3
          refine lv_iconst (v := 0) hx hb dX12_chooses_253 (by decide) ?_
          exact blk254   (0 : Int32) _ _ _ _ hW (lv_sub hl [] rfl) h
        · have h := h.2 c3
          refine lv_iconst (v := 1) hx hb dX12_chooses_249 (by decide) ?_
          refine lv_goto (tgt := 254) hx hb dX12_chooses_250 (by decide) ?_
          exact blk254   (1 : Int32) _ _ _ _ hW (lv_sub hl [] rfl) h
      · have h := h.2 c2
        refine lv_aload_n hx hb dX12_chooses_223 rfl (lv_at hl 0 rfl) ?_
        refine xgX12_25r hx hb hts hown hK hW 0 hcX12_chooses_X12 (hI 0 (by decide)) lR_0 (hts _ hwX12_chooses_1) (sR_0_25 _) dX12_chooses_224 ?_
        refine lv_iload_n hx hb dX12_chooses_227 rfl (lv_at hl 2 rfl) ?_
        refine lv_aload_n hx hb dX12_chooses_228 rfl (lv_at hl 0 rfl) ?_
        refine xgX12_51r hx hb hts hown hK hW 0 hcX12_chooses_X12 (hI 0 (by decide)) lR_0 (hts _ hwX12_chooses_2) (sR_0_51 _) dX12_chooses_229 ?_
        refine lv_iload_n hx hb dX12_chooses_232 rfl (lv_at hl 2 rfl) ?_
        obtain ⟨hi4, h⟩ := h
        refine x_iald hx hb hK hW 23 (hI 23 (by decide)) lR_23 hi4 dX12_chooses_233 ?_
        obtain ⟨hi5, h⟩ := h
        refine x_iast hx hb hK hW 17 (hI 17 (by decide)) lR_17 hi5 dX12_chooses_234 (fun σ6 H locs hσ6 hW => ?_)
        have h := h σ6 hσ6
        obtain ⟨v7, hv7⟩ : ∃ y : Int32, y = x3 + (1 : Int32) := ⟨_, rfl⟩
        have h := h v7 hv7
        refine lv_iinc (v := v7) (lv' := [(3, .int v7), (0, .ref (ad 0)), (1, .int x1)]) hx hb dX12_chooses_235 hl (k := 2) rfl (by rw [hv7]; rfl) (by decide) rfl (fun ls hl => ?_)
        refine lv_goto (tgt := 218) hx hb dX12_chooses_238 (by decide) ?_
        exact hk218 v7 _ _ _ _ hW (lv_sub hl [1, 2, 0] rfl) h
  have blk210 : ∀ (x1 : Int32) (x2 : Int32) (k46 : Int32 → St → Prop) (hk46 : ∀ (x3 : Int32) (σ : St) (H : Heap) (locs : List Loc) (ls : Array Slot), xW D KA layR stR ad ids (xA ad ids s.heap.size) s.heap σ H locs → lv_has ls 8 [(0, .ref (ad 0)), (1, .int x1), (2, .int x2), (3, .int x3)] → k46 x3 σ → W p l e rmX12_chooses s m args below meth c H locs 0 0 Q (F0 m 46 ls [])) (x3 : Int32) (σ : St) (H : Heap) (locs : List Loc) (ls : Array Slot), xW D KA layR stR ad ids (xA ad ids s.heap.size) s.heap σ H locs → lv_has ls 8 [(0, .ref (ad 0)), (1, .int x1), (2, .int x2), (3, .int x3)] → wX12_chooses_210 k46 post x1 x2 x3 σ → W p l e rmX12_chooses s m args below meth c H locs 0 0 Q (F0 m 210 ls []) := by
    intro x1 x2 k46 hk46 x3 σ H locs ls hW hl h
    unfold wX12_chooses_210 at h
    obtain ⟨v8, hv8⟩ : ∃ y : Int32, y = x3 + (1 : Int32) := ⟨_, rfl⟩
    have h := h v8 hv8
    refine lv_iinc (v := v8) (lv' := [(3, .int v8), (0, .ref (ad 0)), (1, .int x1), (2, .int x2)]) hx hb dX12_chooses_210 hl (k := 3) rfl (by rw [hv8]; rfl) (by decide) rfl (fun ls hl => ?_)
    refine lv_goto (tgt := 46) hx hb dX12_chooses_213 (by decide) ?_
    exact hk46 v8 _ _ _ _ hW (lv_sub hl [1, 2, 3, 0] rfl) h
  have blk184 : ∀ (x1 : Int32) (x2 : Int32) (k46 : Int32 → St → Prop) (hk46 : ∀ (x3 : Int32) (σ : St) (H : Heap) (locs : List Loc) (ls : Array Slot), xW D KA layR stR ad ids (xA ad ids s.heap.size) s.heap σ H locs → lv_has ls 8 [(0, .ref (ad 0)), (1, .int x1), (2, .int x2), (3, .int x3)] → k46 x3 σ → W p l e rmX12_chooses s m args below meth c H locs 0 0 Q (F0 m 46 ls [])) (x3 : Int32) (n : Nat) (x7 : Int32) (σ : St) (H : Heap) (locs : List Loc) (ls : Array Slot), xW D KA layR stR ad ids (xA ad ids s.heap.size) s.heap σ H locs → lv_has ls 8 [(0, .ref (ad 0)), (1, .int x1), (2, .int x2), (3, .int x3), (7, .int x7)] → wX12_chooses_184 k46 post x1 x2 x3 n x7 σ → W p l e rmX12_chooses s m args below meth c H locs 0 0 Q (F0 m 184 ls []) := by
    intro x1 x2 k46 hk46 x3 n
    induction n with
    | zero => intro x7 σ H locs ls hW hl h; exact (h : False).elim
    | succ n ih =>
      intro x7 σ H locs ls hW hl h
      have hk184 : ∀ (x7 : Int32) (σ : St) (H : Heap) (locs : List Loc) (ls : Array Slot), xW D KA layR stR ad ids (xA ad ids s.heap.size) s.heap σ H locs → lv_has ls 8 [(0, .ref (ad 0)), (1, .int x1), (2, .int x2), (3, .int x3), (7, .int x7)] → (wX12_chooses_184 k46 post x1 x2 x3 n) x7 σ → W p l e rmX12_chooses s m args below meth c H locs 0 0 Q (F0 m 184 ls []) := fun x7 σ H locs ls hW hl h => ih x7 σ H locs ls hW hl h
      rw [wX12_chooses_184_s] at h
      try dsimp only at h
      generalize wX12_chooses_184 k46 post x1 x2 x3 n = k184 at h hk184
      refine lv_iload hx hb dX12_chooses_184 (lv_at hl 4 rfl) ?_
      refine lv_iload_n hx hb dX12_chooses_186 rfl (lv_at hl 1 rfl) ?_
      refine lv_icmp_ge (tgt := 210) hx hb dX12_chooses_187 (by decide) (fun c9 => ?_) (fun c9 => ?_)
      · have h := h.1 c9
        exact blk210 x1 x2 k46 hk46 x3 _ _ _ _ hW (lv_sub hl [0, 1, 2, 3] rfl) h
      · have h := h.2 c9
        refine lv_aload_n hx hb dX12_chooses_190 rfl (lv_at hl 0 rfl) ?_
        refine xgX12_52r hx hb hts hown hK hW 0 hcX12_chooses_X12 (hI 0 (by decide)) lR_0 (hts _ hwX12_chooses_3) (sR_0_52 _) dX12_chooses_191 ?_
        refine lv_iload hx hb dX12_chooses_194 (lv_at hl 4 rfl) ?_
        refine lv_aload_n hx hb dX12_chooses_196 rfl (lv_at hl 0 rfl) ?_
        refine xgX12_25r hx hb hts hown hK hW 0 hcX12_chooses_X12 (hI 0 (by decide)) lR_0 (hts _ hwX12_chooses_1) (sR_0_25 _) dX12_chooses_197 ?_
        refine lv_iload hx hb dX12_chooses_200 (lv_at hl 4 rfl) ?_
        obtain ⟨hi10, h⟩ := h
        refine x_iald hx hb hK hW 17 (hI 17 (by decide)) lR_17 hi10 dX12_chooses_202 ?_
        obtain ⟨hi11, h⟩ := h
        refine x_iast hx hb hK hW 24 (hI 24 (by decide)) lR_24 hi11 dX12_chooses_203 (fun σ12 H locs hσ12 hW => ?_)
        have h := h σ12 hσ12
        obtain ⟨v13, hv13⟩ : ∃ y : Int32, y = x7 + (1 : Int32) := ⟨_, rfl⟩
        have h := h v13 hv13
        refine lv_iinc (v := v13) (lv' := [(7, .int v13), (0, .ref (ad 0)), (1, .int x1), (2, .int x2), (3, .int x3)]) hx hb dX12_chooses_204 hl (k := 4) rfl (by rw [hv13]; rfl) (by decide) rfl (fun ls hl => ?_)
        refine lv_goto (tgt := 184) hx hb dX12_chooses_207 (by decide) ?_
        exact hk184 v13 _ _ _ _ hW (lv_sub hl [1, 2, 3, 4, 0] rfl) h
  have blk169 : ∀ (x1 : Int32) (x2 : Int32) (k46 : Int32 → St → Prop) (hk46 : ∀ (x3 : Int32) (σ : St) (H : Heap) (locs : List Loc) (ls : Array Slot), xW D KA layR stR ad ids (xA ad ids s.heap.size) s.heap σ H locs → lv_has ls 8 [(0, .ref (ad 0)), (1, .int x1), (2, .int x2), (3, .int x3)] → k46 x3 σ → W p l e rmX12_chooses s m args below meth c H locs 0 0 Q (F0 m 46 ls [])) (x3 : Int32) (x5 : Int32) (x6 : Int32) (σ : St) (H : Heap) (locs : List Loc) (ls : Array Slot), xW D KA layR stR ad ids (xA ad ids s.heap.size) s.heap σ H locs → lv_has ls 8 [(0, .ref (ad 0)), (1, .int x1), (2, .int x2), (3, .int x3), (5, .int x5), (6, .int x6)] → wX12_chooses_169 k46 post x1 x2 x3 x5 x6 σ → W p l e rmX12_chooses s m args below meth c H locs 0 0 Q (F0 m 169 ls []) := by
    intro x1 x2 k46 hk46 x3 x5 x6 σ H locs ls hW hl h
    unfold wX12_chooses_169 at h
    refine lv_aload_n hx hb dX12_chooses_169 rfl (lv_at hl 0 rfl) ?_
    refine lv_iload hx hb dX12_chooses_170 (lv_at hl 5 rfl) ?_
    refine xpX12_53 hx hb hts hown hK hW 0 hcX12_chooses_X12 (hI 0 (by decide)) lR_0 (hts _ hwX12_chooses_0) dX12_chooses_172 (fun σ14 H locs hσ14 hW => ?_)
    have h := h σ14 hσ14
    refine lv_aload_n hx hb dX12_chooses_175 rfl (lv_at hl 0 rfl) ?_
    refine lv_iload hx hb dX12_chooses_176 (lv_at hl 4 rfl) ?_
    refine xpX12_54 hx hb hts hown hK hW 0 hcX12_chooses_X12 (hI 0 (by decide)) lR_0 (hts _ hwX12_chooses_4) dX12_chooses_178 (fun σ15 H locs hσ15 hW => ?_)
    have h := h σ15 hσ15
    refine lv_iconst (v := 0) hx hb dX12_chooses_181 (by decide) ?_
    refine lv_istore (lv' := [(7, .int (0 : Int32)), (0, .ref (ad 0)), (1, .int x1), (2, .int x2), (3, .int x3), (5, .int x5), (6, .int x6)]) hx hb dX12_chooses_182 hl (by decide) rfl (fun ls hl => ?_)
    obtain ⟨n, h⟩ := h
    exact blk184 x1 x2 k46 hk46 x3 n (0 : Int32) _ _ _ _ hW (lv_sub hl [1, 2, 3, 4, 0] rfl) h
  have blk114 : ∀ (x1 : Int32) (x2 : Int32) (x3 : Int32) (k46 : Int32 → St → Prop) (hk46 : ∀ (x3 : Int32) (σ : St) (H : Heap) (locs : List Loc) (ls : Array Slot), xW D KA layR stR ad ids (xA ad ids s.heap.size) s.heap σ H locs → lv_has ls 8 [(0, .ref (ad 0)), (1, .int x1), (2, .int x2), (3, .int x3)] → k46 x3 σ → W p l e rmX12_chooses s m args below meth c H locs 0 0 Q (F0 m 46 ls [])) (k62 : Int32 → Int32 → Int32 → St → Prop) (hk62 : ∀ (x4 : Int32) (x5 : Int32) (x6 : Int32) (σ : St) (H : Heap) (locs : List Loc) (ls : Array Slot), xW D KA layR stR ad ids (xA ad ids s.heap.size) s.heap σ H locs → lv_has ls 8 [(0, .ref (ad 0)), (1, .int x1), (2, .int x2), (3, .int x3), (4, .int x4), (5, .int x5), (6, .int x6)] → k62 x4 x5 x6 σ → W p l e rmX12_chooses s m args below meth c H locs 0 0 Q (F0 m 62 ls [])) (x4 : Int32) (x6 : Int32) (s0 : Int32) (s1 : Int32) (σ : St) (H : Heap) (locs : List Loc) (ls : Array Slot), xW D KA layR stR ad ids (xA ad ids s.heap.size) s.heap σ H locs → lv_has ls 8 [(0, .ref (ad 0)), (1, .int x1), (2, .int x2), (3, .int x3), (4, .int x4), (6, .int x6)] → wX12_chooses_114 k46 k62 post x1 x2 x3 x4 x6 s0 s1 σ → W p l e rmX12_chooses s m args below meth c H locs 0 0 Q (F0 m 114 ls [.int s1, .int s0]) := by
    intro x1 x2 x3 k46 hk46 k62 hk62 x4 x6 s0 s1 σ H locs ls hW hl h
    unfold wX12_chooses_114 at h
    refine lv_iadd hx hb dX12_chooses_114 ?_
    refine lv_topi (fun v17 hv17 => ?_)
    have h := h v17 hv17
    refine lv_istore (lv' := [(5, .int v17), (0, .ref (ad 0)), (1, .int x1), (2, .int x2), (3, .int x3), (4, .int x4), (6, .int x6)]) hx hb dX12_chooses_115 hl (by decide) rfl (fun ls hl => ?_)
    obtain ⟨v18, hv18⟩ : ∃ y : Int32, y = x6 + (-1 : Int32) := ⟨_, rfl⟩
    have h := h v18 hv18
    refine lv_iinc (v := v18) (lv' := [(6, .int v18), (5, .int v17), (0, .ref (ad 0)), (1, .int x1), (2, .int x2), (3, .int x3), (4, .int x4)]) hx hb dX12_chooses_117 hl (k := 6) rfl (by rw [hv18]; rfl) (by decide) rfl (fun ls hl => ?_)
    refine lv_goto (tgt := 62) hx hb dX12_chooses_120 (by decide) ?_
    exact hk62 x4 v17 v18 _ _ _ _ hW (lv_sub hl [2, 3, 4, 5, 6, 1, 0] rfl) h
  have blk62 : ∀ (x1 : Int32) (x2 : Int32) (k46 : Int32 → St → Prop) (hk46 : ∀ (x3 : Int32) (σ : St) (H : Heap) (locs : List Loc) (ls : Array Slot), xW D KA layR stR ad ids (xA ad ids s.heap.size) s.heap σ H locs → lv_has ls 8 [(0, .ref (ad 0)), (1, .int x1), (2, .int x2), (3, .int x3)] → k46 x3 σ → W p l e rmX12_chooses s m args below meth c H locs 0 0 Q (F0 m 46 ls [])) (x3 : Int32) (n : Nat) (x4 : Int32) (x5 : Int32) (x6 : Int32) (σ : St) (H : Heap) (locs : List Loc) (ls : Array Slot), xW D KA layR stR ad ids (xA ad ids s.heap.size) s.heap σ H locs → lv_has ls 8 [(0, .ref (ad 0)), (1, .int x1), (2, .int x2), (3, .int x3), (4, .int x4), (5, .int x5), (6, .int x6)] → wX12_chooses_62 k46 post x1 x2 x3 n x4 x5 x6 σ → W p l e rmX12_chooses s m args below meth c H locs 0 0 Q (F0 m 62 ls []) := by
    intro x1 x2 k46 hk46 x3 n
    induction n with
    | zero => intro x4 x5 x6 σ H locs ls hW hl h; exact (h : False).elim
    | succ n ih =>
      intro x4 x5 x6 σ H locs ls hW hl h
      have hk62 : ∀ (x4 : Int32) (x5 : Int32) (x6 : Int32) (σ : St) (H : Heap) (locs : List Loc) (ls : Array Slot), xW D KA layR stR ad ids (xA ad ids s.heap.size) s.heap σ H locs → lv_has ls 8 [(0, .ref (ad 0)), (1, .int x1), (2, .int x2), (3, .int x3), (4, .int x4), (5, .int x5), (6, .int x6)] → (wX12_chooses_62 k46 post x1 x2 x3 n) x4 x5 x6 σ → W p l e rmX12_chooses s m args below meth c H locs 0 0 Q (F0 m 62 ls []) := fun x4 x5 x6 σ H locs ls hW hl h => ih x4 x5 x6 σ H locs ls hW hl h
      rw [wX12_chooses_62_s] at h
      try dsimp only at h
      generalize wX12_chooses_62 k46 post x1 x2 x3 n = k62 at h hk62
      refine lv_iload hx hb dX12_chooses_62 (lv_at hl 6 rfl) ?_
      refine lv_if_lt (tgt := 123) hx hb dX12_chooses_64 (by decide) (fun c19 => ?_) (fun c19 => ?_)
      · have h := h.1 c19
        refine lv_aload_n hx hb dX12_chooses_123 rfl (lv_at hl 0 rfl) ?_
        refine x_calli (va_runV (As := []) (rest := []) ⟨hx, hb, hml, hown, hts⟩ (J_X12_anyTwice l hI h) (cwV 0 hts gX12_chooses_X12_anyTwice rfl rfl rfl hdV_X12_anyTwice ⟨Nat.le_of_ble_eq_true rfl, Nat.le_of_ble_eq_true rfl⟩) (x_preV (ci := 12) hK hZ hA hW (hI 0 (by decide)) lR_0 rfl) rfl rfl hl.1 rfl (lv_room (Nat.le_of_ble_eq_true rfl)) dX12_chooses_124 ⟨Nat.zero_le _, Nat.zero_le _⟩) hW hA (fun r21 σ20 H locs h hW => ?_)
        try dsimp only at h
        refine lv_if_eq (tgt := 133) hx hb dX12_chooses_127 (by decide) (fun c22 => ?_) (fun c22 => ?_)
        · have h := h.1 c22
          refine lv_aload_n hx hb dX12_chooses_133 rfl (lv_at hl 0 rfl) ?_
          refine x_calli (va_runV (As := []) (rest := []) ⟨hx, hb, hml, hown, hts⟩ (J_X12_wells l hI h) (cwV 0 hts gX12_chooses_X12_wells rfl rfl rfl hdV_X12_wells ⟨Nat.le_of_ble_eq_true rfl, Nat.le_of_ble_eq_true rfl⟩) (x_preV (ci := 12) hK hZ hA hW (hI 0 (by decide)) lR_0 rfl) rfl rfl hl.1 rfl (lv_room (Nat.le_of_ble_eq_true rfl)) dX12_chooses_134 ⟨Nat.zero_le _, Nat.zero_le _⟩) hW hA (fun r24 σ23 H locs h hW => ?_)
          try dsimp only at h
          refine lv_istore (lv' := [(6, .int r24), (0, .ref (ad 0)), (1, .int x1), (2, .int x2), (3, .int x3), (4, .int x4), (5, .int x5)]) hx hb dX12_chooses_137 hl (by decide) rfl (fun ls hl => ?_)
          refine lv_iload hx hb dX12_chooses_139 (lv_at hl 0 rfl) ?_
          refine lv_aload_n hx hb dX12_chooses_141 rfl (lv_at hl 1 rfl) ?_
          refine xgX12_53 hx hb hts hown hK hW 0 hcX12_chooses_X12 (hI 0 (by decide)) lR_0 (hts _ hwX12_chooses_0) dX12_chooses_142 ?_
          refine lv_icmp_lt (tgt := 210) hx hb dX12_chooses_145 (by decide) (fun c25 => ?_) (fun c25 => ?_)
          · have h := h.1 c25
            exact blk210 x1 x2 k46 hk46 x3 _ _ _ _ hW (lv_sub hl [1, 2, 3, 4] rfl) h
          · have h := h.2 c25
            refine lv_iload hx hb dX12_chooses_148 (lv_at hl 0 rfl) ?_
            refine lv_aload_n hx hb dX12_chooses_150 rfl (lv_at hl 1 rfl) ?_
            refine xgX12_53 hx hb hts hown hK hW 0 hcX12_chooses_X12 (hI 0 (by decide)) lR_0 (hts _ hwX12_chooses_0) dX12_chooses_151 ?_
            refine lv_icmp_ne (tgt := 169) hx hb dX12_chooses_154 (by decide) (fun c26 => ?_) (fun c26 => ?_)
            · have h := h.1 c26
              exact blk169 x1 x2 k46 hk46 x3 x5 r24 _ _ _ _ hW (lv_sub hl [1, 2, 3, 4, 6, 0] rfl) h
            · have h := h.2 c26
              refine lv_iload hx hb dX12_chooses_157 (lv_at hl 6 rfl) ?_
              refine lv_aload_n hx hb dX12_chooses_159 rfl (lv_at hl 1 rfl) ?_
              refine xgX12_54 hx hb hts hown hK hW 0 hcX12_chooses_X12 (hI 0 (by decide)) lR_0 (hts _ hwX12_chooses_4) dX12_chooses_160 ?_
              refine lv_icmp_lt (tgt := 169) hx hb dX12_chooses_163 (by decide) (fun c27 => ?_) (fun c27 => ?_)
              · have h := h.1 c27
                exact blk169 x1 x2 k46 hk46 x3 x5 r24 _ _ _ _ hW (lv_sub hl [1, 2, 3, 4, 6, 0] rfl) h
              · have h := h.2 c27
                refine lv_goto (tgt := 210) hx hb dX12_chooses_166 (by decide) ?_
                exact blk210 x1 x2 k46 hk46 x3 _ _ _ _ hW (lv_sub hl [1, 2, 3, 4] rfl) h
        · have h := h.2 c22
          refine lv_goto (tgt := 210) hx hb dX12_chooses_130 (by decide) ?_
          exact blk210 x1 x2 k46 hk46 x3 _ _ _ _ hW (lv_sub hl [0, 1, 2, 3] rfl) h
      · have h := h.2 c19
        refine lv_aload_n hx hb dX12_chooses_67 rfl (lv_at hl 0 rfl) ?_
        refine xgX12_25r hx hb hts hown hK hW 0 hcX12_chooses_X12 (hI 0 (by decide)) lR_0 (hts _ hwX12_chooses_1) (sR_0_25 _) dX12_chooses_68 ?_
        refine lv_iload hx hb dX12_chooses_71 (lv_at hl 6 rfl) ?_
        refine lv_iload hx hb dX12_chooses_73 (lv_at hl 4 rfl) ?_
        refine lv_aload_n hx hb dX12_chooses_75 rfl (lv_at hl 0 rfl) ?_
        refine xgX12_20 hx hb hts hown hK hW 0 hcX12_chooses_X12 (hI 0 (by decide)) lR_0 (hts _ hwX12_chooses_5) dX12_chooses_76 ?_
        obtain ⟨hd28, h⟩ := h
        refine lv_irem hx hb dX12_chooses_79 hd28 ?_
        obtain ⟨hi29, h⟩ := h
        refine x_iast hx hb hK hW 17 (hI 17 (by decide)) lR_17 hi29 dX12_chooses_80 (fun σ30 H locs hσ30 hW => ?_)
        have h := h σ30 hσ30
        refine lv_iload hx hb dX12_chooses_81 (lv_at hl 4 rfl) ?_
        refine lv_aload_n hx hb dX12_chooses_83 rfl (lv_at hl 0 rfl) ?_
        refine xgX12_20 hx hb hts hown hK hW 0 hcX12_chooses_X12 (hI 0 (by decide)) lR_0 (hts _ hwX12_chooses_5) dX12_chooses_84 ?_
        obtain ⟨hd31, h⟩ := h
        refine lv_idiv hx hb dX12_chooses_87 hd31 ?_
        refine lv_topi (fun v32 hv32 => ?_)
        have h := h v32 hv32
        refine lv_istore (lv' := [(4, .int v32), (0, .ref (ad 0)), (1, .int x1), (2, .int x2), (3, .int x3), (5, .int x5), (6, .int x6)]) hx hb dX12_chooses_88 hl (by decide) rfl (fun ls hl => ?_)
        refine lv_iload hx hb dX12_chooses_90 (lv_at hl 5 rfl) ?_
        refine lv_aload_n hx hb dX12_chooses_92 rfl (lv_at hl 1 rfl) ?_
        refine xgX12_25r hx hb hts hown hK hW 0 hcX12_chooses_X12 (hI 0 (by decide)) lR_0 (hts _ hwX12_chooses_1) (sR_0_25 _) dX12_chooses_93 ?_
        refine lv_iload hx hb dX12_chooses_96 (lv_at hl 6 rfl) ?_
        refine x_iald hx hb hK hW 17 (hI 17 (by decide)) lR_17 hi29 dX12_chooses_98 ?_
        refine lv_aload_n hx hb dX12_chooses_99 rfl (lv_at hl 1 rfl) ?_
        refine xgX12_51r hx hb hts hown hK hW 0 hcX12_chooses_X12 (hI 0 (by decide)) lR_0 (hts _ hwX12_chooses_2) (sR_0_51 _) dX12_chooses_100 ?_
        refine lv_iload hx hb dX12_chooses_103 (lv_at hl 6 rfl) ?_
        obtain ⟨hi34, h⟩ := h
        refine x_iald hx hb hK hW 23 (hI 23 (by decide)) lR_23 hi34 dX12_chooses_105 ?_
        refine lv_icmp_ne (tgt := 113) hx hb dX12_chooses_106 (by decide) (fun c35 => ?_) (fun c35 => ?_)
        · have h := h.1 c35
          refine lv_iconst (v := 1) hx hb dX12_chooses_113 (by decide) ?_
          exact blk114 x1 x2 x3 k46 hk46 k62 hk62 v32 x6 x5 (1 : Int32) _ _ _ _ hW (lv_sub hl [1, 2, 3, 4, 0, 6] rfl) h
        · have h := h.2 c35
          refine lv_iconst (v := 0) hx hb dX12_chooses_109 (by decide) ?_
          refine lv_goto (tgt := 114) hx hb dX12_chooses_110 (by decide) ?_
          exact blk114 x1 x2 x3 k46 hk46 k62 hk62 v32 x6 x5 (0 : Int32) _ _ _ _ hW (lv_sub hl [1, 2, 3, 4, 0, 6] rfl) h
  have blk46 : ∀ (x1 : Int32) (x2 : Int32) (n : Nat) (x3 : Int32) (σ : St) (H : Heap) (locs : List Loc) (ls : Array Slot), xW D KA layR stR ad ids (xA ad ids s.heap.size) s.heap σ H locs → lv_has ls 8 [(0, .ref (ad 0)), (1, .int x1), (2, .int x2), (3, .int x3)] → wX12_chooses_46 post x1 x2 n x3 σ → W p l e rmX12_chooses s m args below meth c H locs 0 0 Q (F0 m 46 ls []) := by
    intro   x1 x2 n
    induction n with
    | zero => intro x3 σ H locs ls hW hl h; exact (h : False).elim
    | succ n ih =>
      intro x3 σ H locs ls hW hl h
      have hk46 : ∀ (x3 : Int32) (σ : St) (H : Heap) (locs : List Loc) (ls : Array Slot), xW D KA layR stR ad ids (xA ad ids s.heap.size) s.heap σ H locs → lv_has ls 8 [(0, .ref (ad 0)), (1, .int x1), (2, .int x2), (3, .int x3)] → (wX12_chooses_46 post x1 x2 n) x3 σ → W p l e rmX12_chooses s m args below meth c H locs 0 0 Q (F0 m 46 ls []) := fun x3 σ H locs ls hW hl h => ih x3 σ H locs ls hW hl h
      rw [wX12_chooses_46_s] at h
      try dsimp only at h
      generalize wX12_chooses_46 post x1 x2 n = k46 at h hk46
      refine lv_iload_n hx hb dX12_chooses_46 rfl (lv_at hl 3 rfl) ?_
      refine lv_iload_n hx hb dX12_chooses_47 rfl (lv_at hl 2 rfl) ?_
      refine lv_icmp_ge (tgt := 216) hx hb dX12_chooses_48 (by decide) (fun c36 => ?_) (fun c36 => ?_)
      · have h := h.1 c36
        refine lv_iconst (v := 0) hx hb dX12_chooses_216 (by decide) ?_
        refine lv_istore_n (lv' := [(3, .int (0 : Int32)), (0, .ref (ad 0)), (1, .int x1), (2, .int x2)]) hx hb dX12_chooses_217 rfl hl (by decide) rfl (fun ls hl => ?_)
        obtain ⟨n, h⟩ := h
        exact blk218   x1 n (0 : Int32) _ _ _ _ hW (lv_sub hl [1, 2, 0] rfl) h
      · have h := h.2 c36
        refine lv_iload_n hx hb dX12_chooses_51 rfl (lv_at hl 3 rfl) ?_
        refine lv_istore (lv' := [(4, .int x3), (0, .ref (ad 0)), (1, .int x1), (2, .int x2), (3, .int x3)]) hx hb dX12_chooses_52 hl (by decide) rfl (fun ls hl => ?_)
        refine lv_iconst (v := 0) hx hb dX12_chooses_54 (by decide) ?_
        refine lv_istore (lv' := [(5, .int (0 : Int32)), (4, .int x3), (0, .ref (ad 0)), (1, .int x1), (2, .int x2), (3, .int x3)]) hx hb dX12_chooses_55 hl (by decide) rfl (fun ls hl => ?_)
        refine lv_iload_n hx hb dX12_chooses_57 rfl (lv_at hl 3 rfl) ?_
        refine lv_iconst (v := 1) hx hb dX12_chooses_58 (by decide) ?_
        refine lv_isub hx hb dX12_chooses_59 ?_
        refine lv_topi (fun v38 hv38 => ?_)
        have h := h v38 hv38
        refine lv_istore (lv' := [(6, .int v38), (5, .int (0 : Int32)), (4, .int x3), (0, .ref (ad 0)), (1, .int x1), (2, .int x2), (3, .int x3)]) hx hb dX12_chooses_60 hl (by decide) rfl (fun ls hl => ?_)
        obtain ⟨n, h⟩ := h
        exact blk62 x1 x2 k46 hk46 x3 n x3 (0 : Int32) v38 _ _ _ _ hW (lv_sub hl [3, 4, 5, 6, 2, 1, 0] rfl) h
  have blk9 : ∀ (x1 : Int32) (n : Nat) (x2 : Int32) (x3 : Int32) (σ : St) (H : Heap) (locs : List Loc) (ls : Array Slot), xW D KA layR stR ad ids (xA ad ids s.heap.size) s.heap σ H locs → lv_has ls 8 [(0, .ref (ad 0)), (1, .int x1), (2, .int x2), (3, .int x3)] → wX12_chooses_9 post x1 n x2 x3 σ → W p l e rmX12_chooses s m args below meth c H locs 0 0 Q (F0 m 9 ls []) := by
    intro   x1 n
    induction n with
    | zero => intro x2 x3 σ H locs ls hW hl h; exact (h : False).elim
    | succ n ih =>
      intro x2 x3 σ H locs ls hW hl h
      have hk9 : ∀ (x2 : Int32) (x3 : Int32) (σ : St) (H : Heap) (locs : List Loc) (ls : Array Slot), xW D KA layR stR ad ids (xA ad ids s.heap.size) s.heap σ H locs → lv_has ls 8 [(0, .ref (ad 0)), (1, .int x1), (2, .int x2), (3, .int x3)] → (wX12_chooses_9 post x1 n) x2 x3 σ → W p l e rmX12_chooses s m args below meth c H locs 0 0 Q (F0 m 9 ls []) := fun x2 x3 σ H locs ls hW hl h => ih x2 x3 σ H locs ls hW hl h
      rw [wX12_chooses_9_s] at h
      try dsimp only at h
      generalize wX12_chooses_9 post x1 n = k9 at h hk9
      refine lv_iload_n hx hb dX12_chooses_9 rfl (lv_at hl 3 rfl) ?_
      refine lv_iload_n hx hb dX12_chooses_10 rfl (lv_at hl 1 rfl) ?_
      refine lv_icmp_ge (tgt := 39) hx hb dX12_chooses_11 (by decide) (fun c40 => ?_) (fun c40 => ?_)
      · have h := h.1 c40
        refine lv_aload_n hx hb dX12_chooses_39 rfl (lv_at hl 0 rfl) ?_
        refine lv_iconst (v := (-1)) hx hb dX12_chooses_40 (by decide) ?_
        refine xpX12_53 hx hb hts hown hK hW 0 hcX12_chooses_X12 (hI 0 (by decide)) lR_0 (hts _ hwX12_chooses_0) dX12_chooses_41 (fun σ41 H locs hσ41 hW => ?_)
        have h := h σ41 hσ41
        refine lv_iconst (v := 0) hx hb dX12_chooses_44 (by decide) ?_
        refine lv_istore_n (lv' := [(3, .int (0 : Int32)), (0, .ref (ad 0)), (1, .int x1), (2, .int x2)]) hx hb dX12_chooses_45 rfl hl (by decide) rfl (fun ls hl => ?_)
        obtain ⟨n, h⟩ := h
        exact blk46   x1 x2 n (0 : Int32) _ _ _ _ hW (lv_sub hl [1, 2, 3, 0] rfl) h
      · have h := h.2 c40
        refine lv_aload_n hx hb dX12_chooses_14 rfl (lv_at hl 0 rfl) ?_
        refine xgX12_51r hx hb hts hown hK hW 0 hcX12_chooses_X12 (hI 0 (by decide)) lR_0 (hts _ hwX12_chooses_2) (sR_0_51 _) dX12_chooses_15 ?_
        refine lv_iload_n hx hb dX12_chooses_18 rfl (lv_at hl 3 rfl) ?_
        refine lv_aload_n hx hb dX12_chooses_19 rfl (lv_at hl 0 rfl) ?_
        refine xgX12_25r hx hb hts hown hK hW 0 hcX12_chooses_X12 (hI 0 (by decide)) lR_0 (hts _ hwX12_chooses_1) (sR_0_25 _) dX12_chooses_20 ?_
        refine lv_iload_n hx hb dX12_chooses_23 rfl (lv_at hl 3 rfl) ?_
        obtain ⟨hi43, h⟩ := h
        refine x_iald hx hb hK hW 17 (hI 17 (by decide)) lR_17 hi43 dX12_chooses_24 ?_
        obtain ⟨hi44, h⟩ := h
        refine x_iast hx hb hK hW 23 (hI 23 (by decide)) lR_23 hi44 dX12_chooses_25 (fun σ45 H locs hσ45 hW => ?_)
        have h := h σ45 hσ45
        refine lv_iload_n hx hb dX12_chooses_26 rfl (lv_at hl 2 rfl) ?_
        refine lv_aload_n hx hb dX12_chooses_27 rfl (lv_at hl 0 rfl) ?_
        refine xgX12_20 hx hb hts hown hK hW 0 hcX12_chooses_X12 (hI 0 (by decide)) lR_0 (hts _ hwX12_chooses_5) dX12_chooses_28 ?_
        refine lv_imul hx hb dX12_chooses_31 ?_
        refine lv_topi (fun v46 hv46 => ?_)
        have h := h v46 hv46
        refine lv_istore_n (lv' := [(2, .int v46), (0, .ref (ad 0)), (1, .int x1), (3, .int x3)]) hx hb dX12_chooses_32 rfl hl (by decide) rfl (fun ls hl => ?_)
        obtain ⟨v47, hv47⟩ : ∃ y : Int32, y = x3 + (1 : Int32) := ⟨_, rfl⟩
        have h := h v47 hv47
        refine lv_iinc (v := v47) (lv' := [(3, .int v47), (2, .int v46), (0, .ref (ad 0)), (1, .int x1)]) hx hb dX12_chooses_33 hl (k := 3) rfl (by rw [hv47]; rfl) (by decide) rfl (fun ls hl => ?_)
        refine lv_goto (tgt := 9) hx hb dX12_chooses_36 (by decide) ?_
        exact hk9 v46 v47 _ _ _ _ hW (lv_sub hl [2, 3, 1, 0] rfl) h
  have main : ∀ (H : Heap) (locs : List Loc) (ls : Array Slot), xW D KA layR stR ad ids (xA ad ids s.heap.size) s.heap σ H locs → lv_has ls 8 [(0, .ref (ad 0))] → W p l e rmX12_chooses s m args below meth c H locs 0 0 Q (F0 m 0 ls []) := by
    intro H locs ls hW hl
    unfold wX12_chooses at h
    refine lv_aload_n hx hb dX12_chooses_0 rfl (lv_at hl 0 rfl) ?_
    refine x_calli (va_runV (As := []) (rest := []) ⟨hx, hb, hml, hown, hts⟩ (J_X12_chosen l hI h) (cwV 0 hts gX12_chooses_X12_chosen rfl rfl rfl hdV_X12_chosen ⟨Nat.le_of_ble_eq_true rfl, Nat.le_of_ble_eq_true rfl⟩) (x_preV (ci := 12) hK hZ hA hW (hI 0 (by decide)) lR_0 rfl) rfl rfl hl.1 rfl (lv_room (Nat.le_of_ble_eq_true rfl)) dX12_chooses_1 ⟨Nat.zero_le _, Nat.zero_le _⟩) hW hA (fun r1002 σ1001 H locs h hW => ?_)
    try dsimp only at h
    refine lv_istore_n (lv' := [(1, .int r1002), (0, .ref (ad 0))]) hx hb dX12_chooses_4 rfl hl (by decide) rfl (fun ls hl => ?_)
    refine lv_iconst (v := 1) hx hb dX12_chooses_5 (by decide) ?_
    refine lv_istore_n (lv' := [(2, .int (1 : Int32)), (1, .int r1002), (0, .ref (ad 0))]) hx hb dX12_chooses_6 rfl hl (by decide) rfl (fun ls hl => ?_)
    refine lv_iconst (v := 0) hx hb dX12_chooses_7 (by decide) ?_
    refine lv_istore_n (lv' := [(3, .int (0 : Int32)), (2, .int (1 : Int32)), (1, .int r1002), (0, .ref (ad 0))]) hx hb dX12_chooses_8 rfl hl (by decide) rfl (fun ls hl => ?_)
    obtain ⟨n, h⟩ := h
    exact blk9   r1002 n (1 : Int32) (0 : Int32) _ _ _ _ hW (lv_sub hl [3, 2, 1, 0] rfl) h
  exact main _ _ _ hW hl
theorem hwX12_choose_0 : (.fieldLink RX12 90 "FortyBeltsModel" "bestDrum" "[I" : Cond) ∈ wsX12_choose := (List.mem_cons_of_mem _ (List.mem_append_left _ (List.mem_append_left _ (List.mem_of_getElem? (i := 3) rfl))))
theorem hwX12_choose_1 : (.fieldLink RX12 429 "FortyBeltsModel" "bestChanged" "I" : Cond) ∈ wsX12_choose := (List.mem_cons_of_mem _ (List.mem_append_left _ (List.mem_append_left _ (List.mem_of_getElem? (i := 2) rfl))))
theorem hwX12_choose_2 : (.fieldLink RX12 420 "FortyBeltsModel" "bestWells" "I" : Cond) ∈ wsX12_choose := (List.mem_cons_of_mem _ (List.mem_append_left _ (List.mem_append_left _ (List.mem_of_getElem? (i := 1) rfl))))
theorem hwX12_choose_3 : (.constantLong RX12 314 (10) : Cond) ∈ wsX12_choose := (List.mem_cons_of_mem _ (List.mem_append_left _ (List.mem_append_left _ (List.mem_of_getElem? (i := 0) rfl))))
theorem hcX12_choose_X12 : ∀ w ∈ wsX120, w ∈ wsX12_choose := fun _ h => (List.mem_cons_of_mem _ (List.mem_append_right _ h))
set_option maxHeartbeats 4000000 in
set_option maxRecDepth 100000 in
theorem J_X12_choose {D : va_G} {KA : Nat → ClassId} {zs : ZS} {ad : Nat → Nat} {ids : List Nat} {sz : Nat} (l : Launch) (hI : ∀ c, c < 35 → c ∈ ids) {a1 : Int32}  {σ : St} {post : Int32 → St → Prop} (h : wX12_choose  a1 σ post) : Met l yX12_choose wsX12_choose rmX12_choose (va_Pc [.ref (ad 0), .int a1] (xIn D KA zs layR stR ad ids sz σ)) (va_Qi post (xOut D KA layR stR ad ids) (xA ad ids sz)) 0 0 (xA ad ids sz) := by
  refine Met.ofW (cc := cX12_choose) (maxL := 2) (ret := (some .int)) (by decide) rfl ?_
  intro p e s m args below meth c s₁ B hml hv
  obtain ⟨hav, hsz, hK, hZ, hP, hD⟩ := hv
  have hx := B.exec
  have hb := B.bytes
  have hr := B.returns
  have hts := atoms_spec (ws := wsX12_choose) B.pre
  have hown : s.vm.findClass RX12 = some m.cls := findClass_of_methodNamed B.named
  have hlocks := B.notSynchronized
  subst hsz
  have hA : ∀ q : Nat, s.heap.size ≤ q → xA ad ids s.heap.size q := fun q h => Or.inr h
  have hW : xW D KA layR stR ad ids (xA ad ids s.heap.size) s.heap σ s.heap [] := ⟨hP, xA_D (D := D) hD, va_S.rf⟩
  have kr : ∀ (v : Int32) (σ : St) (H : Heap) (locs : List Loc) (ls : Array Slot) (pc : Nat), xW D KA layR stR ad ids (xA ad ids s.heap.size) s.heap σ H locs → post v σ → decode cX12_choose pc = .ok (.ireturn, 1) → W p l e rmX12_choose s m args below meth c H locs 0 0 (MQ below (va_Qi post (xOut D KA layR stR ad ids) (xA ad ids s.heap.size)) args s 0 0 (xA ad ids s.heap.size)) (F0 m pc ls [.int v]) := fun v σ H locs ls pc hW h hd => x_iret hx hb hr hlocks hW h hd
  have hl := lv_entry ([.ref (ad 0), .int a1]) (n := 2) (Nat.le_of_ble_eq_true rfl)
  rw [show entryFrame m args 2 = entryFrame m ([.ref (ad 0), .int a1] : List Value).toArray 2 from by rw [hav]]
  rw [lg_entry_eq]
  generalize (lg_sl ([.ref (ad 0), .int a1]) ++ List.replicate (2 - (lg_sl ([.ref (ad 0), .int a1])).length) Slot.unset).toArray = ls at hl ⊢
  have hl : lv_has ls 2 [(0, .ref (ad 0)), (1, .int a1)] := hl
  show W p l e rmX12_choose s m args below meth c s.heap [] 0 0 _ _
  generalize MQ below (va_Qi post (xOut D KA layR stR ad ids) (xA ad ids s.heap.size)) args s 0 0 (xA ad ids s.heap.size) = Q at kr ⊢
  have blk73 : ∀ (s0 : Int32) (σ : St) (H : Heap) (locs : List Loc) (ls : Array Slot), xW D KA layR stR ad ids (xA ad ids s.heap.size) s.heap σ H locs → lv_has ls 2 [] → wX12_choose_73 post s0 σ → W p l e rmX12_choose s m args below meth c H locs 0 0 Q (F0 m 73 ls [.int s0]) := by
    intro   s0 σ H locs ls hW hl h
    unfold wX12_choose_73 at h
    exact kr _ _ _ _ _ _ hW h dX12_choose_73
  have blk32 : ∀ (x1 : Int32) (σ : St) (H : Heap) (locs : List Loc) (ls : Array Slot), xW D KA layR stR ad ids (xA ad ids s.heap.size) s.heap σ H locs → lv_has ls 2 [(0, .ref (ad 0)), (1, .int x1)] → wX12_choose_32 post x1 σ → W p l e rmX12_choose s m args below meth c H locs 0 0 Q (F0 m 32 ls []) := by
    intro   x1 σ H locs ls hW hl h
    unfold wX12_choose_32 at h
    refine lv_aload_n hx hb dX12_choose_32 rfl (lv_at hl 0 rfl) ?_
    refine x_calli (va_runV (As := []) (rest := []) ⟨hx, hb, hml, hown, hts⟩ (J_X12_chooses l hI h) (cwV 0 hts gX12_choose_X12_chooses rfl rfl rfl hdV_X12_chooses ⟨Nat.le_of_ble_eq_true rfl, Nat.le_of_ble_eq_true rfl⟩) (x_preV (ci := 12) hK hZ hA hW (hI 0 (by decide)) lR_0 rfl) rfl rfl hl.1 rfl (lv_room (Nat.le_of_ble_eq_true rfl)) dX12_choose_33 ⟨Nat.zero_le _, Nat.zero_le _⟩) hW hA (fun r2 σ1 H locs h hW => ?_)
    try dsimp only at h
    refine lv_if_ne (tgt := 41) hx hb dX12_choose_36 (by decide) (fun c3 => ?_) (fun c3 => ?_)
    · have h := h.1 c3
      refine lv_iload_n hx hb dX12_choose_41 rfl (lv_at hl 1 rfl) ?_
      refine lv_if_ne (tgt := 52) hx hb dX12_choose_42 (by decide) (fun c4 => ?_) (fun c4 => ?_)
      · have h := h.1 c4
        refine lv_iload_n hx hb dX12_choose_52 rfl (lv_at hl 1 rfl) ?_
        refine lv_iconst (v := 1) hx hb dX12_choose_53 (by decide) ?_
        refine lv_icmp_ne (tgt := 64) hx hb dX12_choose_54 (by decide) (fun c5 => ?_) (fun c5 => ?_)
        · have h := h.1 c5
          refine lv_aload_n hx hb dX12_choose_64 rfl (lv_at hl 0 rfl) ?_
          refine xgX12_52r hx hb hts hown hK hW 0 hcX12_choose_X12 (hI 0 (by decide)) lR_0 (hts _ hwX12_choose_0) (sR_0_52 _) dX12_choose_65 ?_
          refine lv_iload_n hx hb dX12_choose_68 rfl (lv_at hl 1 rfl) ?_
          refine lv_bipush (v := 10) hx hb dX12_choose_69 (by decide) ?_
          refine lv_isub hx hb dX12_choose_71 ?_
          obtain ⟨hi6, h⟩ := h
          refine x_iald hx hb hK hW 24 (hI 24 (by decide)) lR_24 hi6 dX12_choose_72 ?_
          exact blk73   (gI σ1 24 (x1 - (10 : Int32)).toNatClampNeg) _ _ _ _ hW (lv_sub hl [] rfl) h
        · have h := h.2 c5
          refine lv_aload_n hx hb dX12_choose_57 rfl (lv_at hl 0 rfl) ?_
          refine xgX12_54 hx hb hts hown hK hW 0 hcX12_choose_X12 (hI 0 (by decide)) lR_0 (hts _ hwX12_choose_1) dX12_choose_58 ?_
          refine lv_goto (tgt := 73) hx hb dX12_choose_61 (by decide) ?_
          exact blk73   (gI σ1 0 54) _ _ _ _ hW (lv_sub hl [] rfl) h
      · have h := h.2 c4
        refine lv_aload_n hx hb dX12_choose_45 rfl (lv_at hl 0 rfl) ?_
        refine xgX12_53 hx hb hts hown hK hW 0 hcX12_choose_X12 (hI 0 (by decide)) lR_0 (hts _ hwX12_choose_2) dX12_choose_46 ?_
        refine lv_goto (tgt := 73) hx hb dX12_choose_49 (by decide) ?_
        exact blk73   (gI σ1 0 53) _ _ _ _ hW (lv_sub hl [] rfl) h
    · have h := h.2 c3
      refine lv_iconst (v := (-1)) hx hb dX12_choose_39 (by decide) ?_
      exact kr _ _ _ _ _ _ hW h dX12_choose_40
  have main : ∀ (H : Heap) (locs : List Loc) (ls : Array Slot), xW D KA layR stR ad ids (xA ad ids s.heap.size) s.heap σ H locs → lv_has ls 2 [(0, .ref (ad 0)), (1, .int a1)] → W p l e rmX12_choose s m args below meth c H locs 0 0 Q (F0 m 0 ls []) := by
    intro H locs ls hW hl
    unfold wX12_choose at h
    refine lv_iload_n hx hb dX12_choose_0 rfl (lv_at hl 1 rfl) ?_
    refine lv_i2l hx hb dX12_choose_1 rfl ?_
    refine lv_lconst (v := 0) hx hb dX12_choose_2 (by decide) ?_
    refine lv_lconst (v := 1) hx hb dX12_choose_3 (by decide) ?_
    refine x_calli (va_runS (As := [.long (a1.toInt64), .long (0 : Int64), .long (1 : Int64)]) (rest := []) ⟨hx, hb, hml, hown, hts⟩ (J_X12_in l hI h) (va_cwS 3 hts gX12_choose_X12_in rfl rfl rfl hdS_X12_in ⟨Nat.le_of_ble_eq_true rfl, Nat.le_of_ble_eq_true rfl⟩) (x_preS hK hZ hA hW) rfl rfl hl.1 rfl (lv_room (Nat.le_of_ble_eq_true rfl)) dX12_choose_4 ⟨Nat.zero_le _, Nat.zero_le _⟩) hW hA (fun r1002 σ1001 H locs h hW => ?_)
    try dsimp only at h
    refine lv_if_ne (tgt := 32) hx hb dX12_choose_7 (by decide) (fun c1003 => ?_) (fun c1003 => ?_)
    · have h := h.1 c1003
      exact blk32   a1 _ _ _ _ hW (lv_sub hl [0, 1] rfl) h
    · have h := h.2 c1003
      refine lv_iload_n hx hb dX12_choose_10 rfl (lv_at hl 1 rfl) ?_
      refine lv_i2l hx hb dX12_choose_11 rfl ?_
      refine lv_ldc2 hx hb hown (hts _ hwX12_choose_3) dX12_choose_12 ?_
      refine lv_bipush (v := 9) hx hb dX12_choose_15 (by decide) ?_
      refine lv_aload_n hx hb dX12_choose_17 rfl (lv_at hl 0 rfl) ?_
      refine x_calli (va_runV (As := []) (rest := [.int (9 : Int32), .long (10 : Int64), .long (a1.toInt64)]) ⟨hx, hb, hml, hown, hts⟩ (J_X12_chosen l hI h) (cwV 0 hts gX12_choose_X12_chosen rfl rfl rfl hdV_X12_chosen ⟨Nat.le_of_ble_eq_true rfl, Nat.le_of_ble_eq_true rfl⟩) (x_preV (ci := 12) hK hZ hA hW (hI 0 (by decide)) lR_0 rfl) rfl rfl hl.1 rfl (lv_room (Nat.le_of_ble_eq_true rfl)) dX12_choose_18 ⟨Nat.zero_le _, Nat.zero_le _⟩) hW hA (fun r1005 σ1004 H locs h hW => ?_)
      try dsimp only at h
      refine lv_iadd hx hb dX12_choose_21 ?_
      refine lv_i2l hx hb dX12_choose_22 rfl ?_
      refine x_calli (va_runS (As := [.long (a1.toInt64), .long (10 : Int64), .long (((9 : Int32) + r1005).toInt64)]) (rest := []) ⟨hx, hb, hml, hown, hts⟩ (J_X12_in l hI h) (va_cwS 3 hts gX12_choose_X12_in rfl rfl rfl hdS_X12_in ⟨Nat.le_of_ble_eq_true rfl, Nat.le_of_ble_eq_true rfl⟩) (x_preS hK hZ hA hW) rfl rfl hl.1 rfl (lv_room (Nat.le_of_ble_eq_true rfl)) dX12_choose_23 ⟨Nat.zero_le _, Nat.zero_le _⟩) hW hA (fun r1007 σ1006 H locs h hW => ?_)
      try dsimp only at h
      refine lv_if_ne (tgt := 32) hx hb dX12_choose_26 (by decide) (fun c1008 => ?_) (fun c1008 => ?_)
      · have h := h.1 c1008
        exact blk32   a1 _ _ _ _ hW (lv_sub hl [0, 1] rfl) h
      · have h := h.2 c1008
        refine lv_bipush (v := (-2)) hx hb dX12_choose_29 (by decide) ?_
        exact kr _ _ _ _ _ _ hW h dX12_choose_31
  exact main _ _ _ hW hl
theorem hwX12_copy_0 : (.fieldLink RX12 121 "FortyBeltsModel" "items" "[I" : Cond) ∈ wsX12_copy := (List.mem_cons_of_mem _ (List.mem_append_left _ (List.mem_of_getElem? (i := 3) rfl)))
theorem hwX12_copy_1 : (.fieldLink RX12 111 "FortyBeltsModel" "isThere" "[Z" : Cond) ∈ wsX12_copy := (List.mem_cons_of_mem _ (List.mem_append_left _ (List.mem_of_getElem? (i := 0) rfl)))
theorem hwX12_copy_2 : (.fieldLink RX12 115 "FortyBeltsModel" "sorts" "[I" : Cond) ∈ wsX12_copy := (List.mem_cons_of_mem _ (List.mem_append_left _ (List.mem_of_getElem? (i := 1) rfl)))
theorem hwX12_copy_3 : (.fieldLink RX12 118 "FortyBeltsModel" "sheetSize" "[I" : Cond) ∈ wsX12_copy := (List.mem_cons_of_mem _ (List.mem_append_left _ (List.mem_of_getElem? (i := 2) rfl)))
theorem hcX12_copy_X12 : ∀ w ∈ wsX120, w ∈ wsX12_copy := fun _ h => (List.mem_cons_of_mem _ (List.mem_append_right _ h))
set_option maxHeartbeats 4000000 in
set_option maxRecDepth 100000 in
theorem J_X12_copy {D : va_G} {KA : Nat → ClassId} {zs : ZS} {ad : Nat → Nat} {ids : List Nat} {sz : Nat} (l : Launch) (hI : ∀ c, c < 35 → c ∈ ids) {a1 : Int32} {a2 : Int32} {a3 : Int32} {a4 : Int32} {a5 : Int32}  {σ : St} {post : Int32 → St → Prop} (h : wX12_copy  a1 a2 a3 a4 a5 σ post) : Met l yX12_copy wsX12_copy rmX12_copy (va_Pc [.ref (ad 0), .int a1, .int a2, .int a3, .int a4, .int a5] (xIn D KA zs layR stR ad ids sz σ)) (va_Qi post (xOut D KA layR stR ad ids) (xA ad ids sz)) 0 0 (xA ad ids sz) := by
  refine Met.ofW (cc := cX12_copy) (maxL := 9) (ret := (some .int)) (by decide) rfl ?_
  intro p e s m args below meth c s₁ B hml hv
  obtain ⟨hav, hsz, hK, hZ, hP, hD⟩ := hv
  have hx := B.exec
  have hb := B.bytes
  have hr := B.returns
  have hts := atoms_spec (ws := wsX12_copy) B.pre
  have hown : s.vm.findClass RX12 = some m.cls := findClass_of_methodNamed B.named
  have hlocks := B.notSynchronized
  subst hsz
  have hA : ∀ q : Nat, s.heap.size ≤ q → xA ad ids s.heap.size q := fun q h => Or.inr h
  have hW : xW D KA layR stR ad ids (xA ad ids s.heap.size) s.heap σ s.heap [] := ⟨hP, xA_D (D := D) hD, va_S.rf⟩
  have kr : ∀ (v : Int32) (σ : St) (H : Heap) (locs : List Loc) (ls : Array Slot) (pc : Nat), xW D KA layR stR ad ids (xA ad ids s.heap.size) s.heap σ H locs → post v σ → decode cX12_copy pc = .ok (.ireturn, 1) → W p l e rmX12_copy s m args below meth c H locs 0 0 (MQ below (va_Qi post (xOut D KA layR stR ad ids) (xA ad ids s.heap.size)) args s 0 0 (xA ad ids s.heap.size)) (F0 m pc ls [.int v]) := fun v σ H locs ls pc hW h hd => x_iret hx hb hr hlocks hW h hd
  have hl := lv_entry ([.ref (ad 0), .int a1, .int a2, .int a3, .int a4, .int a5]) (n := 9) (Nat.le_of_ble_eq_true rfl)
  rw [show entryFrame m args 9 = entryFrame m ([.ref (ad 0), .int a1, .int a2, .int a3, .int a4, .int a5] : List Value).toArray 9 from by rw [hav]]
  rw [lg_entry_eq]
  generalize (lg_sl ([.ref (ad 0), .int a1, .int a2, .int a3, .int a4, .int a5]) ++ List.replicate (9 - (lg_sl ([.ref (ad 0), .int a1, .int a2, .int a3, .int a4, .int a5])).length) Slot.unset).toArray = ls at hl ⊢
  have hl : lv_has ls 9 [(0, .ref (ad 0)), (1, .int a1), (2, .int a2), (3, .int a3), (4, .int a4), (5, .int a5)] := hl
  show W p l e rmX12_copy s m args below meth c s.heap [] 0 0 _ _
  generalize MQ below (va_Qi post (xOut D KA layR stR ad ids) (xA ad ids s.heap.size)) args s 0 0 (xA ad ids s.heap.size) = Q at kr ⊢
  have blk145 : ∀ (x1 : Int32) (x2 : Int32) (x3 : Int32) (x4 : Int32) (x5 : Int32) (x6 : Int32) (k121 : Int32 → St → Prop) (hk121 : ∀ (x7 : Int32) (σ : St) (H : Heap) (locs : List Loc) (ls : Array Slot), xW D KA layR stR ad ids (xA ad ids s.heap.size) s.heap σ H locs → lv_has ls 9 [(0, .ref (ad 0)), (1, .int x1), (2, .int x2), (3, .int x3), (4, .int x4), (5, .int x5), (6, .int x6), (7, .int x7)] → k121 x7 σ → W p l e rmX12_copy s m args below meth c H locs 0 0 Q (F0 m 121 ls [])) (x7 : Int32) (s0 : Int32) (σ : St) (H : Heap) (locs : List Loc) (ls : Array Slot), xW D KA layR stR ad ids (xA ad ids s.heap.size) s.heap σ H locs → lv_has ls 9 [(0, .ref (ad 0)), (1, .int x1), (2, .int x2), (3, .int x3), (4, .int x4), (5, .int x5), (6, .int x6), (7, .int x7)] → wX12_copy_145 k121 post x1 x2 x3 x4 x5 x6 x7 s0 σ → W p l e rmX12_copy s m args below meth c H locs 0 0 Q (F0 m 145 ls [.int s0]) := by
    intro x1 x2 x3 x4 x5 x6 k121 hk121 x7 s0 σ H locs ls hW hl h
    unfold wX12_copy_145 at h
    refine lv_istore (lv' := [(8, .int s0), (0, .ref (ad 0)), (1, .int x1), (2, .int x2), (3, .int x3), (4, .int x4), (5, .int x5), (6, .int x6), (7, .int x7)]) hx hb dX12_copy_145 hl (by decide) rfl (fun ls hl => ?_)
    refine lv_aload_n hx hb dX12_copy_147 rfl (lv_at hl 1 rfl) ?_
    refine xgX12_70r hx hb hts hown hK hW 0 hcX12_copy_X12 (hI 0 (by decide)) lR_0 (hts _ hwX12_copy_0) (sR_0_70 _) dX12_copy_148 ?_
    refine lv_bipush (v := 40) hx hb dX12_copy_151 (by decide) ?_
    refine lv_iload_n hx hb dX12_copy_153 rfl (lv_at hl 4 rfl) ?_
    refine lv_imul hx hb dX12_copy_154 ?_
    refine lv_iload hx hb dX12_copy_155 (lv_at hl 5 rfl) ?_
    refine lv_iadd hx hb dX12_copy_157 ?_
    refine lv_iload hx hb dX12_copy_158 (lv_at hl 0 rfl) ?_
    refine lv_iadd hx hb dX12_copy_160 ?_
    refine lv_aload_n hx hb dX12_copy_161 rfl (lv_at hl 1 rfl) ?_
    refine xgX12_70r hx hb hts hown hK hW 0 hcX12_copy_X12 (hI 0 (by decide)) lR_0 (hts _ hwX12_copy_0) (sR_0_70 _) dX12_copy_162 ?_
    refine lv_bipush (v := 40) hx hb dX12_copy_165 (by decide) ?_
    refine lv_iload_n hx hb dX12_copy_167 rfl (lv_at hl 2 rfl) ?_
    refine lv_imul hx hb dX12_copy_168 ?_
    refine lv_iload_n hx hb dX12_copy_169 rfl (lv_at hl 3 rfl) ?_
    refine lv_iadd hx hb dX12_copy_170 ?_
    refine lv_iload hx hb dX12_copy_171 (lv_at hl 0 rfl) ?_
    refine lv_iadd hx hb dX12_copy_173 ?_
    obtain ⟨hi1, h⟩ := h
    refine x_iald hx hb hK hW 34 (hI 34 (by decide)) lR_34 hi1 dX12_copy_174 ?_
    obtain ⟨hi2, h⟩ := h
    refine x_iast hx hb hK hW 34 (hI 34 (by decide)) lR_34 hi2 dX12_copy_175 (fun σ3 H locs hσ3 hW => ?_)
    have h := h σ3 hσ3
    obtain ⟨v4, hv4⟩ : ∃ y : Int32, y = x7 + (1 : Int32) := ⟨_, rfl⟩
    have h := h v4 hv4
    refine lv_iinc (v := v4) (lv' := [(7, .int v4), (8, .int s0), (0, .ref (ad 0)), (1, .int x1), (2, .int x2), (3, .int x3), (4, .int x4), (5, .int x5), (6, .int x6)]) hx hb dX12_copy_176 hl (k := 8) rfl (by rw [hv4]; rfl) (by decide) rfl (fun ls hl => ?_)
    refine lv_goto (tgt := 121) hx hb dX12_copy_179 (by decide) ?_
    exact hk121 v4 _ _ _ _ hW (lv_sub hl [2, 3, 4, 5, 6, 7, 8, 0] rfl) h
  have blk121 : ∀ (x1 : Int32) (x2 : Int32) (x3 : Int32) (x4 : Int32) (x5 : Int32) (x6 : Int32) (n : Nat) (x7 : Int32) (σ : St) (H : Heap) (locs : List Loc) (ls : Array Slot), xW D KA layR stR ad ids (xA ad ids s.heap.size) s.heap σ H locs → lv_has ls 9 [(0, .ref (ad 0)), (1, .int x1), (2, .int x2), (3, .int x3), (4, .int x4), (5, .int x5), (6, .int x6), (7, .int x7)] → wX12_copy_121 post x1 x2 x3 x4 x5 x6 n x7 σ → W p l e rmX12_copy s m args below meth c H locs 0 0 Q (F0 m 121 ls []) := by
    intro   x1 x2 x3 x4 x5 x6 n
    induction n with
    | zero => intro x7 σ H locs ls hW hl h; exact (h : False).elim
    | succ n ih =>
      intro x7 σ H locs ls hW hl h
      have hk121 : ∀ (x7 : Int32) (σ : St) (H : Heap) (locs : List Loc) (ls : Array Slot), xW D KA layR stR ad ids (xA ad ids s.heap.size) s.heap σ H locs → lv_has ls 9 [(0, .ref (ad 0)), (1, .int x1), (2, .int x2), (3, .int x3), (4, .int x4), (5, .int x5), (6, .int x6), (7, .int x7)] → (wX12_copy_121 post x1 x2 x3 x4 x5 x6 n) x7 σ → W p l e rmX12_copy s m args below meth c H locs 0 0 Q (F0 m 121 ls []) := fun x7 σ H locs ls hW hl h => ih x7 σ H locs ls hW hl h
      rw [wX12_copy_121_s] at h
      try dsimp only at h
      generalize wX12_copy_121 post x1 x2 x3 x4 x5 x6 n = k121 at h hk121
      refine lv_iload hx hb dX12_copy_121 (lv_at hl 7 rfl) ?_
      refine lv_iload hx hb dX12_copy_123 (lv_at hl 5 rfl) ?_
      refine lv_icmp_ge (tgt := 182) hx hb dX12_copy_125 (by decide) (fun c5 => ?_) (fun c5 => ?_)
      · have h := h.1 c5
        refine lv_iload hx hb dX12_copy_182 (lv_at hl 5 rfl) ?_
        exact kr _ _ _ _ _ _ hW h dX12_copy_184
      · have h := h.2 c5
        refine lv_iload hx hb dX12_copy_128 (lv_at hl 6 rfl) ?_
        refine lv_if_eq (tgt := 143) hx hb dX12_copy_130 (by decide) (fun c6 => ?_) (fun c6 => ?_)
        · have h := h.1 c6
          refine lv_iload hx hb dX12_copy_143 (lv_at hl 7 rfl) ?_
          exact blk145 x1 x2 x3 x4 x5 x6 k121 hk121 x7 x7 _ _ _ _ hW (lv_sub hl [0, 1, 2, 3, 4, 5, 6, 7] rfl) h
        · have h := h.2 c6
          refine lv_iload hx hb dX12_copy_133 (lv_at hl 5 rfl) ?_
          refine lv_iconst (v := 1) hx hb dX12_copy_135 (by decide) ?_
          refine lv_isub hx hb dX12_copy_136 ?_
          refine lv_iload hx hb dX12_copy_137 (lv_at hl 7 rfl) ?_
          refine lv_isub hx hb dX12_copy_139 ?_
          refine lv_goto (tgt := 145) hx hb dX12_copy_140 (by decide) ?_
          exact blk145 x1 x2 x3 x4 x5 x6 k121 hk121 x7 ((x5 - (1 : Int32)) - x7) _ _ _ _ hW (lv_sub hl [0, 1, 2, 3, 4, 5, 6, 7] rfl) h
  have blk116 : ∀ (x1 : Int32) (x2 : Int32) (x3 : Int32) (x4 : Int32) (x5 : Int32) (s0 : Int32) (σ : St) (H : Heap) (locs : List Loc) (ls : Array Slot), xW D KA layR stR ad ids (xA ad ids s.heap.size) s.heap σ H locs → lv_has ls 9 [(0, .ref (ad 0)), (1, .int x1), (2, .int x2), (3, .int x3), (4, .int x4), (5, .int x5)] → wX12_copy_116 post x1 x2 x3 x4 x5 s0 σ → W p l e rmX12_copy s m args below meth c H locs 0 0 Q (F0 m 116 ls [.int s0]) := by
    intro   x1 x2 x3 x4 x5 s0 σ H locs ls hW hl h
    unfold wX12_copy_116 at h
    refine lv_istore (lv' := [(6, .int s0), (0, .ref (ad 0)), (1, .int x1), (2, .int x2), (3, .int x3), (4, .int x4), (5, .int x5)]) hx hb dX12_copy_116 hl (by decide) rfl (fun ls hl => ?_)
    refine lv_iconst (v := 0) hx hb dX12_copy_118 (by decide) ?_
    refine lv_istore (lv' := [(7, .int (0 : Int32)), (6, .int s0), (0, .ref (ad 0)), (1, .int x1), (2, .int x2), (3, .int x3), (4, .int x4), (5, .int x5)]) hx hb dX12_copy_119 hl (by decide) rfl (fun ls hl => ?_)
    obtain ⟨n, h⟩ := h
    exact blk121   x1 x2 x3 x4 x5 s0 n (0 : Int32) _ _ _ _ hW (lv_sub hl [2, 3, 4, 5, 6, 7, 1, 0] rfl) h
  have blk115 : ∀ (x1 : Int32) (x2 : Int32) (x3 : Int32) (x4 : Int32) (x5 : Int32) (σ : St) (H : Heap) (locs : List Loc) (ls : Array Slot), xW D KA layR stR ad ids (xA ad ids s.heap.size) s.heap σ H locs → lv_has ls 9 [(0, .ref (ad 0)), (1, .int x1), (2, .int x2), (3, .int x3), (4, .int x4), (5, .int x5)] → wX12_copy_115 post x1 x2 x3 x4 x5 σ → W p l e rmX12_copy s m args below meth c H locs 0 0 Q (F0 m 115 ls []) := by
    intro   x1 x2 x3 x4 x5 σ H locs ls hW hl h
    unfold wX12_copy_115 at h
    refine lv_iconst (v := 0) hx hb dX12_copy_115 (by decide) ?_
    exact blk116   x1 x2 x3 x4 x5 (0 : Int32) _ _ _ _ hW (lv_sub hl [0, 1, 2, 3, 4, 5] rfl) h
  have blk97 : ∀ (σ : St) (H : Heap) (locs : List Loc) (ls : Array Slot), xW D KA layR stR ad ids (xA ad ids s.heap.size) s.heap σ H locs → lv_has ls 9 [] → wX12_copy_97 post  σ → W p l e rmX12_copy s m args below meth c H locs 0 0 Q (F0 m 97 ls []) := by
    intro    σ H locs ls hW hl h
    unfold wX12_copy_97 at h
    refine lv_bipush (v := (-12)) hx hb dX12_copy_97 (by decide) ?_
    exact kr _ _ _ _ _ _ hW h dX12_copy_99
  have blk35 : ∀ (σ : St) (H : Heap) (locs : List Loc) (ls : Array Slot), xW D KA layR stR ad ids (xA ad ids s.heap.size) s.heap σ H locs → lv_has ls 9 [] → wX12_copy_35 post  σ → W p l e rmX12_copy s m args below meth c H locs 0 0 Q (F0 m 35 ls []) := by
    intro    σ H locs ls hW hl h
    unfold wX12_copy_35 at h
    refine lv_bipush (v := (-11)) hx hb dX12_copy_35 (by decide) ?_
    exact kr _ _ _ _ _ _ hW h dX12_copy_37
  have blk14 : ∀ (σ : St) (H : Heap) (locs : List Loc) (ls : Array Slot), xW D KA layR stR ad ids (xA ad ids s.heap.size) s.heap σ H locs → lv_has ls 9 [] → wX12_copy_14 post  σ → W p l e rmX12_copy s m args below meth c H locs 0 0 Q (F0 m 14 ls []) := by
    intro    σ H locs ls hW hl h
    unfold wX12_copy_14 at h
    refine lv_bipush (v := (-2)) hx hb dX12_copy_14 (by decide) ?_
    exact kr _ _ _ _ _ _ hW h dX12_copy_16
  have main : ∀ (H : Heap) (locs : List Loc) (ls : Array Slot), xW D KA layR stR ad ids (xA ad ids s.heap.size) s.heap σ H locs → lv_has ls 9 [(0, .ref (ad 0)), (1, .int a1), (2, .int a2), (3, .int a3), (4, .int a4), (5, .int a5)] → W p l e rmX12_copy s m args below meth c H locs 0 0 Q (F0 m 0 ls []) := by
    intro H locs ls hW hl
    unfold wX12_copy at h
    refine lv_iload_n hx hb dX12_copy_0 rfl (lv_at hl 1 rfl) ?_
    refine x_calli (va_runS (As := [.int a1]) (rest := []) ⟨hx, hb, hml, hown, hts⟩ (J_X12_isSheet l hI h) (va_cwS 1 hts gX12_copy_X12_isSheet rfl rfl rfl hdS_X12_isSheet ⟨Nat.le_of_ble_eq_true rfl, Nat.le_of_ble_eq_true rfl⟩) (x_preS hK hZ hA hW) rfl rfl hl.1 rfl (lv_room (Nat.le_of_ble_eq_true rfl)) dX12_copy_1 ⟨Nat.zero_le _, Nat.zero_le _⟩) hW hA (fun r1002 σ1001 H locs h hW => ?_)
    try dsimp only at h
    refine lv_if_eq (tgt := 14) hx hb dX12_copy_4 (by decide) (fun c1003 => ?_) (fun c1003 => ?_)
    · have h := h.1 c1003
      exact blk14    _ _ _ _ hW (lv_sub hl [] rfl) h
    · have h := h.2 c1003
      refine lv_iload_n hx hb dX12_copy_7 rfl (lv_at hl 3 rfl) ?_
      refine x_calli (va_runS (As := [.int a3]) (rest := []) ⟨hx, hb, hml, hown, hts⟩ (J_X12_isSheet l hI h) (va_cwS 1 hts gX12_copy_X12_isSheet rfl rfl rfl hdS_X12_isSheet ⟨Nat.le_of_ble_eq_true rfl, Nat.le_of_ble_eq_true rfl⟩) (x_preS hK hZ hA hW) rfl rfl hl.1 rfl (lv_room (Nat.le_of_ble_eq_true rfl)) dX12_copy_8 ⟨Nat.zero_le _, Nat.zero_le _⟩) hW hA (fun r1005 σ1004 H locs h hW => ?_)
      try dsimp only at h
      refine lv_if_ne (tgt := 17) hx hb dX12_copy_11 (by decide) (fun c1006 => ?_) (fun c1006 => ?_)
      · have h := h.1 c1006
        refine lv_aload_n hx hb dX12_copy_17 rfl (lv_at hl 0 rfl) ?_
        refine xgX12_67r hx hb hts hown hK hW 0 hcX12_copy_X12 (hI 0 (by decide)) lR_0 (hts _ hwX12_copy_1) (sR_0_67 _) dX12_copy_18 ?_
        refine lv_iload_n hx hb dX12_copy_21 rfl (lv_at hl 1 rfl) ?_
        obtain ⟨hi1007, h⟩ := h
        refine x_zald hx hb hK hW 31 (hI 31 (by decide)) lR_31 hi1007 dX12_copy_22 ?_
        refine lv_if_eq (tgt := 35) hx hb dX12_copy_23 (by decide) (fun c1008 => ?_) (fun c1008 => ?_)
        · have h := h.1 c1008
          exact blk35    _ _ _ _ hW (lv_sub hl [] rfl) h
        · have h := h.2 c1008
          refine lv_aload_n hx hb dX12_copy_26 rfl (lv_at hl 0 rfl) ?_
          refine xgX12_67r hx hb hts hown hK hW 0 hcX12_copy_X12 (hI 0 (by decide)) lR_0 (hts _ hwX12_copy_1) (sR_0_67 _) dX12_copy_27 ?_
          refine lv_iload_n hx hb dX12_copy_30 rfl (lv_at hl 3 rfl) ?_
          obtain ⟨hi1009, h⟩ := h
          refine x_zald hx hb hK hW 31 (hI 31 (by decide)) lR_31 hi1009 dX12_copy_31 ?_
          refine lv_if_ne (tgt := 38) hx hb dX12_copy_32 (by decide) (fun c1010 => ?_) (fun c1010 => ?_)
          · have h := h.1 c1010
            refine lv_aload_n hx hb dX12_copy_38 rfl (lv_at hl 0 rfl) ?_
            refine xgX12_68r hx hb hts hown hK hW 0 hcX12_copy_X12 (hI 0 (by decide)) lR_0 (hts _ hwX12_copy_2) (sR_0_68 _) dX12_copy_39 ?_
            refine lv_iload_n hx hb dX12_copy_42 rfl (lv_at hl 1 rfl) ?_
            refine x_iald hx hb hK hW 32 (hI 32 (by decide)) lR_32 hi1007 dX12_copy_43 ?_
            refine lv_aload_n hx hb dX12_copy_44 rfl (lv_at hl 0 rfl) ?_
            refine xgX12_68r hx hb hts hown hK hW 0 hcX12_copy_X12 (hI 0 (by decide)) lR_0 (hts _ hwX12_copy_2) (sR_0_68 _) dX12_copy_45 ?_
            refine lv_iload_n hx hb dX12_copy_48 rfl (lv_at hl 3 rfl) ?_
            refine x_iald hx hb hK hW 32 (hI 32 (by decide)) lR_32 hi1009 dX12_copy_49 ?_
            refine lv_icmp_eq (tgt := 56) hx hb dX12_copy_50 (by decide) (fun c1013 => ?_) (fun c1013 => ?_)
            · have h := h.1 c1013
              refine lv_iload hx hb dX12_copy_56 (lv_at hl 5 rfl) ?_
              refine lv_if_lt (tgt := 97) hx hb dX12_copy_58 (by decide) (fun c1014 => ?_) (fun c1014 => ?_)
              · have h := h.1 c1014
                exact blk97    _ _ _ _ hW (lv_sub hl [] rfl) h
              · have h := h.2 c1014
                refine lv_iload_n hx hb dX12_copy_61 rfl (lv_at hl 2 rfl) ?_
                refine lv_if_lt (tgt := 97) hx hb dX12_copy_62 (by decide) (fun c1015 => ?_) (fun c1015 => ?_)
                · have h := h.1 c1015
                  exact blk97    _ _ _ _ hW (lv_sub hl [] rfl) h
                · have h := h.2 c1015
                  refine lv_iload hx hb dX12_copy_65 (lv_at hl 4 rfl) ?_
                  refine lv_if_lt (tgt := 97) hx hb dX12_copy_67 (by decide) (fun c1016 => ?_) (fun c1016 => ?_)
                  · have h := h.1 c1016
                    exact blk97    _ _ _ _ hW (lv_sub hl [] rfl) h
                  · have h := h.2 c1016
                    refine lv_iload_n hx hb dX12_copy_70 rfl (lv_at hl 2 rfl) ?_
                    refine lv_aload_n hx hb dX12_copy_71 rfl (lv_at hl 0 rfl) ?_
                    refine xgX12_69r hx hb hts hown hK hW 0 hcX12_copy_X12 (hI 0 (by decide)) lR_0 (hts _ hwX12_copy_3) (sR_0_69 _) dX12_copy_72 ?_
                    refine lv_iload_n hx hb dX12_copy_75 rfl (lv_at hl 1 rfl) ?_
                    refine x_iald hx hb hK hW 33 (hI 33 (by decide)) lR_33 hi1007 dX12_copy_76 ?_
                    refine lv_iload hx hb dX12_copy_77 (lv_at hl 5 rfl) ?_
                    refine lv_isub hx hb dX12_copy_79 ?_
                    refine lv_icmp_gt (tgt := 97) hx hb dX12_copy_80 (by decide) (fun c1018 => ?_) (fun c1018 => ?_)
                    · have h := h.1 c1018
                      exact blk97    _ _ _ _ hW (lv_sub hl [] rfl) h
                    · have h := h.2 c1018
                      refine lv_iload hx hb dX12_copy_83 (lv_at hl 4 rfl) ?_
                      refine lv_aload_n hx hb dX12_copy_85 rfl (lv_at hl 0 rfl) ?_
                      refine xgX12_69r hx hb hts hown hK hW 0 hcX12_copy_X12 (hI 0 (by decide)) lR_0 (hts _ hwX12_copy_3) (sR_0_69 _) dX12_copy_86 ?_
                      refine lv_iload_n hx hb dX12_copy_89 rfl (lv_at hl 3 rfl) ?_
                      refine x_iald hx hb hK hW 33 (hI 33 (by decide)) lR_33 hi1009 dX12_copy_90 ?_
                      refine lv_iload hx hb dX12_copy_91 (lv_at hl 5 rfl) ?_
                      refine lv_isub hx hb dX12_copy_93 ?_
                      refine lv_icmp_le (tgt := 100) hx hb dX12_copy_94 (by decide) (fun c1020 => ?_) (fun c1020 => ?_)
                      · have h := h.1 c1020
                        refine lv_iload_n hx hb dX12_copy_100 rfl (lv_at hl 1 rfl) ?_
                        refine lv_iload_n hx hb dX12_copy_101 rfl (lv_at hl 3 rfl) ?_
                        refine lv_icmp_ne (tgt := 115) hx hb dX12_copy_102 (by decide) (fun c1021 => ?_) (fun c1021 => ?_)
                        · have h := h.1 c1021
                          exact blk115   a1 a2 a3 a4 a5 _ _ _ _ hW (lv_sub hl [0, 1, 2, 3, 4, 5] rfl) h
                        · have h := h.2 c1021
                          refine lv_iload_n hx hb dX12_copy_105 rfl (lv_at hl 2 rfl) ?_
                          refine lv_iload hx hb dX12_copy_106 (lv_at hl 4 rfl) ?_
                          refine lv_icmp_ge (tgt := 115) hx hb dX12_copy_108 (by decide) (fun c1022 => ?_) (fun c1022 => ?_)
                          · have h := h.1 c1022
                            exact blk115   a1 a2 a3 a4 a5 _ _ _ _ hW (lv_sub hl [0, 1, 2, 3, 4, 5] rfl) h
                          · have h := h.2 c1022
                            refine lv_iconst (v := 1) hx hb dX12_copy_111 (by decide) ?_
                            refine lv_goto (tgt := 116) hx hb dX12_copy_112 (by decide) ?_
                            exact blk116   a1 a2 a3 a4 a5 (1 : Int32) _ _ _ _ hW (lv_sub hl [0, 1, 2, 3, 4, 5] rfl) h
                      · have h := h.2 c1020
                        exact blk97    _ _ _ _ hW (lv_sub hl [] rfl) h
            · have h := h.2 c1013
              refine lv_bipush (v := (-13)) hx hb dX12_copy_53 (by decide) ?_
              exact kr _ _ _ _ _ _ hW h dX12_copy_55
          · have h := h.2 c1010
            exact blk35    _ _ _ _ hW (lv_sub hl [] rfl) h
      · have h := h.2 c1006
        exact blk14    _ _ _ _ hW (lv_sub hl [] rfl) h
  exact main _ _ _ hW hl
