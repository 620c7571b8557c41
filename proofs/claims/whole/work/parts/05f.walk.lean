theorem hwX11_force_0 : (.fieldLink RX11 50 "FortyBelts" "textCount" "I" : Cond) ∈ wsX11_force := (List.mem_cons_of_mem _ (List.mem_append_left _ (List.mem_of_getElem? (i := 0) rfl)))
theorem hwX11_force_1 : (.fieldLink RX11 243 "FortyBelts" "rule" "I" : Cond) ∈ wsX11_force := (List.mem_cons_of_mem _ (List.mem_append_left _ (List.mem_of_getElem? (i := 1) rfl)))
theorem hcX11_force_X11 : ∀ w ∈ wsX110, w ∈ wsX11_force := fun _ h => (List.mem_cons_of_mem _ (List.mem_append_right _ h))
set_option maxHeartbeats 4000000 in
set_option maxRecDepth 100000 in
theorem J_X11_force {D : va_G} {KA : Nat → ClassId} {zs : ZS} {ad : Nat → Nat} {ids : List Nat} {sz : Nat} (l : Launch) (hI : ∀ c, c < 52 ∧ ¬ c = 19 → c ∈ ids) {a1 : Int32}  {σ : St} {post : Int32 → St → Prop} (h : wX11_force ids a1 σ post) : Met l yX11_force wsX11_force rmX11_force (va_Pc [.ref (ad 0), .int a1] (xIn D KA zs layX stX ad ids sz σ)) (va_Qi post (xOut D KA layX stX ad ids) (xA ad ids sz)) 0 0 (xA ad ids sz) := by
  refine Met.ofW (cc := cX11_force) (maxL := 3) (ret := (some .int)) (by decide) rfl ?_
  intro p e s m args below meth c s₁ B hml hv
  obtain ⟨hav, hsz, hK, hZ, hP, hD⟩ := hv
  have hx := B.exec
  have hb := B.bytes
  have hr := B.returns
  have hts := atoms_spec (ws := wsX11_force) B.pre
  have hown : s.vm.findClass RX11 = some m.cls := findClass_of_methodNamed B.named
  have hlocks := B.notSynchronized
  subst hsz
  have hA : ∀ q : Nat, s.heap.size ≤ q → xA ad ids s.heap.size q := fun q h => Or.inr h
  have hW : xW D KA layX stX ad ids (xA ad ids s.heap.size) s.heap σ s.heap [] := ⟨hP, xA_D (D := D) hD, va_S.rf⟩
  have kr : ∀ (v : Int32) (σ : St) (H : Heap) (locs : List Loc) (ls : Array Slot) (pc : Nat), xW D KA layX stX ad ids (xA ad ids s.heap.size) s.heap σ H locs → post v σ → decode cX11_force pc = .ok (.ireturn, 1) → W p l e rmX11_force s m args below meth c H locs 0 0 (MQ below (va_Qi post (xOut D KA layX stX ad ids) (xA ad ids s.heap.size)) args s 0 0 (xA ad ids s.heap.size)) (F0 m pc ls [.int v]) := fun v σ H locs ls pc hW h hd => x_iret hx hb hr hlocks hW h hd
  have hl := lv_entry ([.ref (ad 0), .int a1]) (n := 3) (Nat.le_of_ble_eq_true rfl)
  rw [show entryFrame m args 3 = entryFrame m ([.ref (ad 0), .int a1] : List Value).toArray 3 from by rw [hav]]
  rw [lg_entry_eq]
  generalize (lg_sl ([.ref (ad 0), .int a1]) ++ List.replicate (3 - (lg_sl ([.ref (ad 0), .int a1])).length) Slot.unset).toArray = ls at hl ⊢
  have hl : lv_has ls 3 [(0, .ref (ad 0)), (1, .int a1)] := hl
  show W p l e rmX11_force s m args below meth c s.heap [] 0 0 _ _
  generalize MQ below (va_Qi post (xOut D KA layX stX ad ids) (xA ad ids s.heap.size)) args s 0 0 (xA ad ids s.heap.size) = Q at kr ⊢
  have main : ∀ (H : Heap) (locs : List Loc) (ls : Array Slot), xW D KA layX stX ad ids (xA ad ids s.heap.size) s.heap σ H locs → lv_has ls 3 [(0, .ref (ad 0)), (1, .int a1)] → W p l e rmX11_force s m args below meth c H locs 0 0 Q (F0 m 0 ls []) := by
    intro H locs ls hW hl
    unfold wX11_force at h
    refine lv_iload_n hx hb dX11_force_0 rfl (lv_at hl 1 rfl) ?_
    refine lv_iconst (v := 0) hx hb dX11_force_1 (by decide) ?_
    refine lv_aload_n hx hb dX11_force_2 rfl (lv_at hl 0 rfl) ?_
    refine xgX11_3 hx hb hts hown hK hW 0 hcX11_force_X11 (hI 0 (by decide)) lX_0 (hts _ hwX11_force_0) dX11_force_3 ?_
    refine lv_iconst (v := 1) hx hb dX11_force_6 (by decide) ?_
    refine lv_isub hx hb dX11_force_7 ?_
    refine x_calli (va_runS (As := [.int a1, .int (0 : Int32), .int ((gI σ 0 3) - (1 : Int32))]) (rest := []) ⟨hx, hb, hml, hown, hts⟩ (J_X11_within l hI h) (va_cwS 3 hts gX11_force_X11_within rfl rfl rfl hdS_X11_within ⟨Nat.le_of_ble_eq_true rfl, Nat.le_of_ble_eq_true rfl⟩) (x_preS hK hZ hA hW) rfl rfl hl.1 rfl (lv_room (Nat.le_of_ble_eq_true rfl)) dX11_force_8 ⟨Nat.zero_le _, Nat.zero_le _⟩) hW hA (fun r1002 σ1001 H locs h hW => ?_)
    try dsimp only at h
    refine lv_if_ne (tgt := 17) hx hb dX11_force_11 (by decide) (fun c1003 => ?_) (fun c1003 => ?_)
    · have h := h.1 c1003
      refine lv_aload_n hx hb dX11_force_17 rfl (lv_at hl 0 rfl) ?_
      refine xgX11_4 hx hb hts hown hK hW 0 hcX11_force_X11 (hI 0 (by decide)) lX_0 (hts _ hwX11_force_1) dX11_force_18 ?_
      refine lv_topi (fun v1004 hv1004 => ?_)
      have h := h v1004 hv1004
      refine lv_istore_n (lv' := [(2, .int v1004), (0, .ref (ad 0)), (1, .int a1)]) hx hb dX11_force_21 rfl hl (by decide) rfl (fun ls hl => ?_)
      refine lv_aload_n hx hb dX11_force_22 rfl (lv_at hl 1 rfl) ?_
      refine lv_iload_n hx hb dX11_force_23 rfl (lv_at hl 2 rfl) ?_
      refine xpX11_4 hx hb hts hown hK hW 0 hcX11_force_X11 (hI 0 (by decide)) lX_0 (hts _ hwX11_force_1) dX11_force_24 (fun σ1005 H locs hσ1005 hW => ?_)
      have h := h σ1005 hσ1005
      refine lv_iload_n hx hb dX11_force_27 rfl (lv_at hl 0 rfl) ?_
      exact kr _ _ _ _ _ _ hW h dX11_force_28
    · have h := h.2 c1003
      refine lv_bipush (v := (-2)) hx hb dX11_force_14 (by decide) ?_
      exact kr _ _ _ _ _ _ hW h dX11_force_16
  exact main _ _ _ hW hl
theorem hwX11_stoppedBy_0 : (.fieldLink RX11 10 "FortyBelts" "mill" "LFortyBelts$Mill;" : Cond) ∈ wsX11_stoppedBy := (List.mem_cons_of_mem _ (List.mem_append_left _ (List.mem_append_left _ (List.mem_append_left _ (List.mem_append_left _ (List.mem_append_left _ (List.mem_append_left _ (List.mem_append_left _ (List.mem_append_left _ (List.mem_append_left _ (List.mem_append_left _ (List.mem_of_getElem? (i := 0) rfl))))))))))))
theorem hwX11_stoppedBy_1 : (.fieldLink RX11 167 "FortyBelts$Belt" "on" "Z" : Cond) ∈ wsX11_stoppedBy := (List.mem_cons_of_mem _ (List.mem_append_left _ (List.mem_append_left _ (List.mem_append_left _ (List.mem_append_left _ (List.mem_append_left _ (List.mem_append_left _ (List.mem_append_left _ (List.mem_append_left _ (List.mem_append_left _ (List.mem_append_left _ (List.mem_of_getElem? (i := 1) rfl))))))))))))
theorem hcX11_stoppedBy_X11 : ∀ w ∈ wsX110, w ∈ wsX11_stoppedBy := fun _ h => (List.mem_cons_of_mem _ (List.mem_append_left _ (List.mem_append_left _ (List.mem_append_left _ (List.mem_append_left _ (List.mem_append_left _ (List.mem_append_left _ (List.mem_append_left _ (List.mem_append_left _ (List.mem_append_right _ h))))))))))
theorem hcX11_stoppedBy_X0 : ∀ w ∈ wsX00, w ∈ wsX11_stoppedBy := fun _ h => (List.mem_cons_of_mem _ (List.mem_append_left _ (List.mem_append_left _ (List.mem_append_left _ (List.mem_append_left _ (List.mem_append_left _ (List.mem_append_left _ (List.mem_append_left _ (List.mem_append_right _ h)))))))))
theorem hcX11_stoppedBy_X1 : ∀ w ∈ wsX10, w ∈ wsX11_stoppedBy := fun _ h => (List.mem_cons_of_mem _ (List.mem_append_left _ (List.mem_append_left _ (List.mem_append_left _ (List.mem_append_left _ (List.mem_append_left _ (List.mem_append_left _ (List.mem_append_right _ h))))))))
theorem hcX11_stoppedBy_X2 : ∀ w ∈ wsX20, w ∈ wsX11_stoppedBy := fun _ h => (List.mem_cons_of_mem _ (List.mem_append_left _ (List.mem_append_left _ (List.mem_append_left _ (List.mem_append_left _ (List.mem_append_left _ (List.mem_append_right _ h)))))))
theorem hcX11_stoppedBy_X3 : ∀ w ∈ wsX30, w ∈ wsX11_stoppedBy := fun _ h => (List.mem_cons_of_mem _ (List.mem_append_left _ (List.mem_append_left _ (List.mem_append_left _ (List.mem_append_left _ (List.mem_append_right _ h))))))
theorem hcX11_stoppedBy_X4 : ∀ w ∈ wsX40, w ∈ wsX11_stoppedBy := fun _ h => (List.mem_cons_of_mem _ (List.mem_append_left _ (List.mem_append_left _ (List.mem_append_left _ (List.mem_append_right _ h)))))
theorem hcX11_stoppedBy_X10 : ∀ w ∈ wsX100, w ∈ wsX11_stoppedBy := fun _ h => (List.mem_cons_of_mem _ (List.mem_append_left _ (List.mem_append_left _ (List.mem_append_right _ h))))
theorem hBX11_stoppedBy : xHB wsX11_stoppedBy := ⟨hcX11_stoppedBy_X0, hcX11_stoppedBy_X1, hcX11_stoppedBy_X2, hcX11_stoppedBy_X3, hcX11_stoppedBy_X4, hcX11_stoppedBy_X10⟩
set_option maxHeartbeats 4000000 in
set_option maxRecDepth 100000 in
theorem J_X11_stoppedBy {D : va_G} {KA : Nat → ClassId} {zs : ZS} {ad : Nat → Nat} {ids : List Nat} {sz : Nat} (l : Launch) (hI : ∀ c, c < 52 ∧ ¬ c = 19 → c ∈ ids) {a1 : Nat} (ok_a1 : okB ids a1) {σ : St} {post : Int32 → St → Prop} (h : wX11_stoppedBy ids a1 σ post) : Met l yX11_stoppedBy wsX11_stoppedBy rmX11_stoppedBy (va_Pc [.ref (ad 0), .ref (ad a1)] (xIn D KA zs layX stX ad ids sz σ)) (va_Qi post (xOut D KA layX stX ad ids) (xA ad ids sz)) 0 0 (xA ad ids sz) := by
  refine Met.ofW (cc := cX11_stoppedBy) (maxL := 5) (ret := (some .int)) (by decide) rfl ?_
  intro p e s m args below meth c s₁ B hml hv
  obtain ⟨hav, hsz, hK, hZ, hP, hD⟩ := hv
  have hx := B.exec
  have hb := B.bytes
  have hr := B.returns
  have hts := atoms_spec (ws := wsX11_stoppedBy) B.pre
  have hown : s.vm.findClass RX11 = some m.cls := findClass_of_methodNamed B.named
  have hlocks := B.notSynchronized
  subst hsz
  have hA : ∀ q : Nat, s.heap.size ≤ q → xA ad ids s.heap.size q := fun q h => Or.inr h
  have hW : xW D KA layX stX ad ids (xA ad ids s.heap.size) s.heap σ s.heap [] := ⟨hP, xA_D (D := D) hD, va_S.rf⟩
  have kr : ∀ (v : Int32) (σ : St) (H : Heap) (locs : List Loc) (ls : Array Slot) (pc : Nat), xW D KA layX stX ad ids (xA ad ids s.heap.size) s.heap σ H locs → post v σ → decode cX11_stoppedBy pc = .ok (.ireturn, 1) → W p l e rmX11_stoppedBy s m args below meth c H locs 0 0 (MQ below (va_Qi post (xOut D KA layX stX ad ids) (xA ad ids s.heap.size)) args s 0 0 (xA ad ids s.heap.size)) (F0 m pc ls [.int v]) := fun v σ H locs ls pc hW h hd => x_iret hx hb hr hlocks hW h hd
  have hl := lv_entry ([.ref (ad 0), .ref (ad a1)]) (n := 5) (Nat.le_of_ble_eq_true rfl)
  rw [show entryFrame m args 5 = entryFrame m ([.ref (ad 0), .ref (ad a1)] : List Value).toArray 5 from by rw [hav]]
  rw [lg_entry_eq]
  generalize (lg_sl ([.ref (ad 0), .ref (ad a1)]) ++ List.replicate (5 - (lg_sl ([.ref (ad 0), .ref (ad a1)])).length) Slot.unset).toArray = ls at hl ⊢
  have hl : lv_has ls 5 [(0, .ref (ad 0)), (1, .ref (ad a1))] := hl
  show W p l e rmX11_stoppedBy s m args below meth c s.heap [] 0 0 _ _
  generalize MQ below (va_Qi post (xOut D KA layX stX ad ids) (xA ad ids s.heap.size)) args s 0 0 (xA ad ids s.heap.size) = Q at kr ⊢
  have main : ∀ (H : Heap) (locs : List Loc) (ls : Array Slot), xW D KA layX stX ad ids (xA ad ids s.heap.size) s.heap σ H locs → lv_has ls 5 [(0, .ref (ad 0)), (1, .ref (ad a1))] → W p l e rmX11_stoppedBy s m args below meth c H locs 0 0 Q (F0 m 0 ls []) := by
    intro H locs ls hW hl
    unfold wX11_stoppedBy at h
    refine lv_aload_n hx hb dX11_stoppedBy_0 rfl (lv_at hl 0 rfl) ?_
    refine xgX11_0r hx hb hts hown hK hW 0 hcX11_stoppedBy_X11 (hI 0 (by decide)) lX_0 (hts _ hwX11_stoppedBy_0) (sX_0_0 _) dX11_stoppedBy_1 ?_
    refine x_callv (va_runV (As := []) (rest := []) ⟨hx, hb, hml, hown, hts⟩ (J_X6_spin l hI h) (cwV 0 hts gX11_stoppedBy_X6_spin rfl rfl rfl hdV_X6_spin ⟨Nat.le_of_ble_eq_true rfl, Nat.le_of_ble_eq_true rfl⟩) (x_preV (ci := 6) hK hZ hA hW (hI 1 (by decide)) lX_1 rfl) rfl rfl hl.1 rfl (lv_room (Nat.le_of_ble_eq_true rfl)) dX11_stoppedBy_4 ⟨Nat.zero_le _, Nat.zero_le _⟩) hW hA (fun σ1001 H locs h hW => ?_)
    try dsimp only at h
    refine lv_aload_n hx hb dX11_stoppedBy_7 rfl (lv_at hl 0 rfl) ?_
    refine xgX11_0r hx hb hts hown hK hW 0 hcX11_stoppedBy_X11 (hI 0 (by decide)) lX_0 (hts _ hwX11_stoppedBy_0) (sX_0_0 _) dX11_stoppedBy_8 ?_
    refine x_calli (va_runV (As := []) (rest := []) ⟨hx, hb, hml, hown, hts⟩ (J_X6_turning l hI h) (cwV 0 hts gX11_stoppedBy_X6_turning rfl rfl rfl hdV_X6_turning ⟨Nat.le_of_ble_eq_true rfl, Nat.le_of_ble_eq_true rfl⟩) (x_preV (ci := 6) hK hZ hA hW (hI 1 (by decide)) lX_1 rfl) rfl rfl hl.1 rfl (lv_room (Nat.le_of_ble_eq_true rfl)) dX11_stoppedBy_11 ⟨Nat.zero_le _, Nat.zero_le _⟩) hW hA (fun r1003 σ1002 H locs h hW => ?_)
    try dsimp only at h
    refine lv_istore_n (lv' := [(2, .int r1003), (0, .ref (ad 0)), (1, .ref (ad a1))]) hx hb dX11_stoppedBy_14 rfl hl (by decide) rfl (fun ls hl => ?_)
    refine lv_aload_n hx hb dX11_stoppedBy_15 rfl (lv_at hl 2 rfl) ?_
    refine xgB_8 hx hb hts hown hK hW a1 hBX11_stoppedBy ok_a1 (hts _ hwX11_stoppedBy_1) (fun _ h => h) dX11_stoppedBy_16 ?_
    refine lv_topi (fun v1004 hv1004 => ?_)
    have h := h v1004 hv1004
    refine lv_istore_n (lv' := [(3, .int v1004), (2, .int r1003), (0, .ref (ad 0)), (1, .ref (ad a1))]) hx hb dX11_stoppedBy_19 rfl hl (by decide) rfl (fun ls hl => ?_)
    refine lv_aload_n hx hb dX11_stoppedBy_20 rfl (lv_at hl 3 rfl) ?_
    refine lv_iconst (v := 0) hx hb dX11_stoppedBy_21 (by decide) ?_
    refine xpB_8 hx hb hts hown hK hW a1 hBX11_stoppedBy ok_a1 (hts _ hwX11_stoppedBy_1) isB_0 dX11_stoppedBy_22 (fun σ1005 H locs hσ1005 hW => ?_)
    have h := h σ1005 hσ1005
    refine lv_aload_n hx hb dX11_stoppedBy_25 rfl (lv_at hl 2 rfl) ?_
    refine xgX11_0r hx hb hts hown hK hW 0 hcX11_stoppedBy_X11 (hI 0 (by decide)) lX_0 (hts _ hwX11_stoppedBy_0) (sX_0_0 _) dX11_stoppedBy_26 ?_
    refine x_callv (va_runV (As := []) (rest := []) ⟨hx, hb, hml, hown, hts⟩ (J_X6_spin l hI h) (cwV 0 hts gX11_stoppedBy_X6_spin rfl rfl rfl hdV_X6_spin ⟨Nat.le_of_ble_eq_true rfl, Nat.le_of_ble_eq_true rfl⟩) (x_preV (ci := 6) hK hZ hA hW (hI 1 (by decide)) lX_1 rfl) rfl rfl hl.1 rfl (lv_room (Nat.le_of_ble_eq_true rfl)) dX11_stoppedBy_29 ⟨Nat.zero_le _, Nat.zero_le _⟩) hW hA (fun σ1006 H locs h hW => ?_)
    try dsimp only at h
    refine lv_aload_n hx hb dX11_stoppedBy_32 rfl (lv_at hl 2 rfl) ?_
    refine xgX11_0r hx hb hts hown hK hW 0 hcX11_stoppedBy_X11 (hI 0 (by decide)) lX_0 (hts _ hwX11_stoppedBy_0) (sX_0_0 _) dX11_stoppedBy_33 ?_
    refine x_calli (va_runV (As := []) (rest := []) ⟨hx, hb, hml, hown, hts⟩ (J_X6_turning l hI h) (cwV 0 hts gX11_stoppedBy_X6_turning rfl rfl rfl hdV_X6_turning ⟨Nat.le_of_ble_eq_true rfl, Nat.le_of_ble_eq_true rfl⟩) (x_preV (ci := 6) hK hZ hA hW (hI 1 (by decide)) lX_1 rfl) rfl rfl hl.1 rfl (lv_room (Nat.le_of_ble_eq_true rfl)) dX11_stoppedBy_36 ⟨Nat.zero_le _, Nat.zero_le _⟩) hW hA (fun r1008 σ1007 H locs h hW => ?_)
    try dsimp only at h
    refine lv_istore (lv' := [(4, .int r1008), (3, .int v1004), (2, .int r1003), (0, .ref (ad 0)), (1, .ref (ad a1))]) hx hb dX11_stoppedBy_39 hl (by decide) rfl (fun ls hl => ?_)
    refine lv_aload_n hx hb dX11_stoppedBy_41 rfl (lv_at hl 4 rfl) ?_
    refine lv_iload_n hx hb dX11_stoppedBy_42 rfl (lv_at hl 1 rfl) ?_
    obtain ⟨hz1009, h⟩ := h
    refine xpB_8 hx hb hts hown hK hW a1 hBX11_stoppedBy ok_a1 (hts _ hwX11_stoppedBy_1) hz1009 dX11_stoppedBy_43 (fun σ1010 H locs hσ1010 hW => ?_)
    have h := h σ1010 hσ1010
    refine lv_iload_n hx hb dX11_stoppedBy_46 rfl (lv_at hl 2 rfl) ?_
    refine lv_iload hx hb dX11_stoppedBy_47 (lv_at hl 0 rfl) ?_
    refine lv_iconst (v := (-1)) hx hb dX11_stoppedBy_49 (by decide) ?_
    refine lv_ixor hx hb dX11_stoppedBy_50 ?_
    refine lv_iand hx hb dX11_stoppedBy_51 ?_
    exact kr _ _ _ _ _ _ hW h dX11_stoppedBy_52
  exact main _ _ _ hW hl
theorem hwX11_hangs_0 : (.fieldLink RX11 10 "FortyBelts" "mill" "LFortyBelts$Mill;" : Cond) ∈ wsX11_hangs := (List.mem_cons_of_mem _ (List.mem_append_left _ (List.mem_append_left _ (List.mem_append_left _ (List.mem_append_left _ (List.mem_append_left _ (List.mem_append_left _ (List.mem_append_left _ (List.mem_append_left _ (List.mem_append_left _ (List.mem_append_left _ (List.mem_of_getElem? (i := 0) rfl))))))))))))
theorem hwX11_hangs_1 : (.fieldLink RX11 145 "FortyBelts$Mill" "beltCount" "I" : Cond) ∈ wsX11_hangs := (List.mem_cons_of_mem _ (List.mem_append_left _ (List.mem_append_left _ (List.mem_append_left _ (List.mem_append_left _ (List.mem_append_left _ (List.mem_append_left _ (List.mem_append_left _ (List.mem_append_left _ (List.mem_append_left _ (List.mem_append_left _ (List.mem_of_getElem? (i := 1) rfl))))))))))))
theorem hwX11_hangs_2 : (.fieldLink RX11 163 "FortyBelts$Mill" "belts" "[LFortyBelts$Belt;" : Cond) ∈ wsX11_hangs := (List.mem_cons_of_mem _ (List.mem_append_left _ (List.mem_append_left _ (List.mem_append_left _ (List.mem_append_left _ (List.mem_append_left _ (List.mem_append_left _ (List.mem_append_left _ (List.mem_append_left _ (List.mem_append_left _ (List.mem_append_left _ (List.mem_of_getElem? (i := 2) rfl))))))))))))
theorem hcX11_hangs_X11 : ∀ w ∈ wsX110, w ∈ wsX11_hangs := fun _ h => (List.mem_cons_of_mem _ (List.mem_append_left _ (List.mem_append_left _ (List.mem_append_left _ (List.mem_append_left _ (List.mem_append_left _ (List.mem_append_left _ (List.mem_append_left _ (List.mem_append_left _ (List.mem_append_right _ h))))))))))
theorem hcX11_hangs_X6 : ∀ w ∈ wsX60, w ∈ wsX11_hangs := fun _ h => (List.mem_cons_of_mem _ (List.mem_append_left _ (List.mem_append_left _ (List.mem_append_left _ (List.mem_append_left _ (List.mem_append_left _ (List.mem_append_left _ (List.mem_append_left _ (List.mem_append_right _ h)))))))))
set_option maxHeartbeats 4000000 in
set_option maxRecDepth 100000 in
theorem J_X11_hangs {D : va_G} {KA : Nat → ClassId} {zs : ZS} {ad : Nat → Nat} {ids : List Nat} {sz : Nat} (l : Launch) (hI : ∀ c, c < 52 ∧ ¬ c = 19 → c ∈ ids)   {σ : St} {post : Int32 → St → Prop} (h : wX11_hangs ids  σ post) : Met l yX11_hangs wsX11_hangs rmX11_hangs (va_Pc [.ref (ad 0)] (xIn D KA zs layX stX ad ids sz σ)) (va_Qi post (xOut D KA layX stX ad ids) (xA ad ids sz)) 0 0 (xA ad ids sz) := by
  refine Met.ofW (cc := cX11_hangs) (maxL := 5) (ret := (some .int)) (by decide) rfl ?_
  intro p e s m args below meth c s₁ B hml hv
  obtain ⟨hav, hsz, hK, hZ, hP, hD⟩ := hv
  have hx := B.exec
  have hb := B.bytes
  have hr := B.returns
  have hts := atoms_spec (ws := wsX11_hangs) B.pre
  have hown : s.vm.findClass RX11 = some m.cls := findClass_of_methodNamed B.named
  have hlocks := B.notSynchronized
  subst hsz
  have hA : ∀ q : Nat, s.heap.size ≤ q → xA ad ids s.heap.size q := fun q h => Or.inr h
  have hW : xW D KA layX stX ad ids (xA ad ids s.heap.size) s.heap σ s.heap [] := ⟨hP, xA_D (D := D) hD, va_S.rf⟩
  have kr : ∀ (v : Int32) (σ : St) (H : Heap) (locs : List Loc) (ls : Array Slot) (pc : Nat), xW D KA layX stX ad ids (xA ad ids s.heap.size) s.heap σ H locs → post v σ → decode cX11_hangs pc = .ok (.ireturn, 1) → W p l e rmX11_hangs s m args below meth c H locs 0 0 (MQ below (va_Qi post (xOut D KA layX stX ad ids) (xA ad ids s.heap.size)) args s 0 0 (xA ad ids s.heap.size)) (F0 m pc ls [.int v]) := fun v σ H locs ls pc hW h hd => x_iret hx hb hr hlocks hW h hd
  have hl := lv_entry ([.ref (ad 0)]) (n := 5) (Nat.le_of_ble_eq_true rfl)
  rw [show entryFrame m args 5 = entryFrame m ([.ref (ad 0)] : List Value).toArray 5 from by rw [hav]]
  rw [lg_entry_eq]
  generalize (lg_sl ([.ref (ad 0)]) ++ List.replicate (5 - (lg_sl ([.ref (ad 0)])).length) Slot.unset).toArray = ls at hl ⊢
  have hl : lv_has ls 5 [(0, .ref (ad 0))] := hl
  show W p l e rmX11_hangs s m args below meth c s.heap [] 0 0 _ _
  generalize MQ below (va_Qi post (xOut D KA layX stX ad ids) (xA ad ids s.heap.size)) args s 0 0 (xA ad ids s.heap.size) = Q at kr ⊢
  have blk54 : ∀ (k6 : Int32 → Int32 → Int32 → St → Prop) (hk6 : ∀ (x1 : Int32) (x2 : Int32) (x3 : Int32) (σ : St) (H : Heap) (locs : List Loc) (ls : Array Slot), xW D KA layX stX ad ids (xA ad ids s.heap.size) s.heap σ H locs → lv_has ls 5 [(0, .ref (ad 0)), (1, .int x1), (2, .int x2), (3, .int x3)] → k6 x1 x2 x3 σ → W p l e rmX11_hangs s m args below meth c H locs 0 0 Q (F0 m 6 ls [])) (x1 : Int32) (x2 : Int32) (x3 : Int32) (σ : St) (H : Heap) (locs : List Loc) (ls : Array Slot), xW D KA layX stX ad ids (xA ad ids s.heap.size) s.heap σ H locs → lv_has ls 5 [(0, .ref (ad 0)), (1, .int x1), (2, .int x2), (3, .int x3)] → wX11_hangs_54 ids k6 post x1 x2 x3 σ → W p l e rmX11_hangs s m args below meth c H locs 0 0 Q (F0 m 54 ls []) := by
    intro  k6 hk6 x1 x2 x3 σ H locs ls hW hl h
    unfold wX11_hangs_54 at h
    obtain ⟨v1, hv1⟩ : ∃ y : Int32, y = x3 + (1 : Int32) := ⟨_, rfl⟩
    have h := h v1 hv1
    refine lv_iinc (v := v1) (lv' := [(3, .int v1), (0, .ref (ad 0)), (1, .int x1), (2, .int x2)]) hx hb dX11_hangs_54 hl (k := 3) rfl (by rw [hv1]; rfl) (by decide) rfl (fun ls hl => ?_)
    refine lv_goto (tgt := 6) hx hb dX11_hangs_57 (by decide) ?_
    exact hk6 x1 x2 v1 _ _ _ _ hW (lv_sub hl [1, 2, 3, 0] rfl) h
  have blk6 : ∀ (n : Nat) (x1 : Int32) (x2 : Int32) (x3 : Int32) (σ : St) (H : Heap) (locs : List Loc) (ls : Array Slot), xW D KA layX stX ad ids (xA ad ids s.heap.size) s.heap σ H locs → lv_has ls 5 [(0, .ref (ad 0)), (1, .int x1), (2, .int x2), (3, .int x3)] → wX11_hangs_6 ids post  n x1 x2 x3 σ → W p l e rmX11_hangs s m args below meth c H locs 0 0 Q (F0 m 6 ls []) := by
    intro    n
    induction n with
    | zero => intro x1 x2 x3 σ H locs ls hW hl h; exact (h : False).elim
    | succ n ih =>
      intro x1 x2 x3 σ H locs ls hW hl h
      have hk6 : ∀ (x1 : Int32) (x2 : Int32) (x3 : Int32) (σ : St) (H : Heap) (locs : List Loc) (ls : Array Slot), xW D KA layX stX ad ids (xA ad ids s.heap.size) s.heap σ H locs → lv_has ls 5 [(0, .ref (ad 0)), (1, .int x1), (2, .int x2), (3, .int x3)] → (wX11_hangs_6 ids post  n) x1 x2 x3 σ → W p l e rmX11_hangs s m args below meth c H locs 0 0 Q (F0 m 6 ls []) := fun x1 x2 x3 σ H locs ls hW hl h => ih x1 x2 x3 σ H locs ls hW hl h
      rw [wX11_hangs_6_s] at h
      try dsimp only at h
      generalize wX11_hangs_6 ids post  n = k6 at h hk6
      refine lv_iload_n hx hb dX11_hangs_6 rfl (lv_at hl 3 rfl) ?_
      refine lv_aload_n hx hb dX11_hangs_7 rfl (lv_at hl 0 rfl) ?_
      refine xgX11_0r hx hb hts hown hK hW 0 hcX11_hangs_X11 (hI 0 (by decide)) lX_0 (hts _ hwX11_hangs_0) (sX_0_0 _) dX11_hangs_8 ?_
      refine xgX6_3 hx hb hts hown hK hW 1 hcX11_hangs_X6 (hI 1 (by decide)) lX_1 (hts _ hwX11_hangs_1) dX11_hangs_11 ?_
      refine lv_icmp_ge (tgt := 60) hx hb dX11_hangs_14 (by decide) (fun c2 => ?_) (fun c2 => ?_)
      · have h := h.1 c2
        refine lv_iload_n hx hb dX11_hangs_60 rfl (lv_at hl 1 rfl) ?_
        exact kr _ _ _ _ _ _ hW h dX11_hangs_61
      · have h := h.2 c2
        refine lv_aload_n hx hb dX11_hangs_17 rfl (lv_at hl 0 rfl) ?_
        refine lv_aload_n hx hb dX11_hangs_18 rfl (lv_at hl 0 rfl) ?_
        refine xgX11_0r hx hb hts hown hK hW 0 hcX11_hangs_X11 (hI 0 (by decide)) lX_0 (hts _ hwX11_hangs_0) (sX_0_0 _) dX11_hangs_19 ?_
        refine xgX6_12r hx hb hts hown hK hW 1 hcX11_hangs_X6 (hI 1 (by decide)) lX_1 (hts _ hwX11_hangs_2) (sX_1_12 _) dX11_hangs_22 ?_
        refine lv_iload_n hx hb dX11_hangs_25 rfl (lv_at hl 3 rfl) ?_
        obtain ⟨hi3, h⟩ := h
        obtain ⟨o4, hr5, ok_o4, h⟩ := h
        refine x_ald hx hb hK hW 11 0 (hI 11 (by decide)) lX_11 rfl hi3 ((sX_11 _ _).trans hr5) dX11_hangs_26 ?_
        refine x_calli (va_runV (As := [.ref (ad o4)]) (rest := []) ⟨hx, hb, hml, hown, hts⟩ (J_X11_stoppedBy l hI ok_o4 h) (cwV 1 hts gX11_hangs_X11_stoppedBy rfl rfl rfl hdV_X11_stoppedBy ⟨Nat.le_of_ble_eq_true rfl, Nat.le_of_ble_eq_true rfl⟩) (x_preV (ci := 11) hK hZ hA hW (hI 0 (by decide)) lX_0 rfl) rfl rfl hl.1 rfl (lv_room (Nat.le_of_ble_eq_true rfl)) dX11_hangs_27 ⟨Nat.zero_le _, Nat.zero_le _⟩) hW hA (fun r7 σ6 H locs h hW => ?_)
        try dsimp only at h
        refine lv_aload_n hx hb dX11_hangs_30 rfl (lv_at hl 0 rfl) ?_
        refine xgX11_0r hx hb hts hown hK hW 0 hcX11_hangs_X11 (hI 0 (by decide)) lX_0 (hts _ hwX11_hangs_0) (sX_0_0 _) dX11_hangs_31 ?_
        refine x_calli (va_runV (As := []) (rest := [.int r7]) ⟨hx, hb, hml, hown, hts⟩ (J_X6_switchedOn l hI h) (cwV 0 hts gX11_hangs_X6_switchedOn rfl rfl rfl hdV_X6_switchedOn ⟨Nat.le_of_ble_eq_true rfl, Nat.le_of_ble_eq_true rfl⟩) (x_preV (ci := 6) hK hZ hA hW (hI 1 (by decide)) lX_1 rfl) rfl rfl hl.1 rfl (lv_room (Nat.le_of_ble_eq_true rfl)) dX11_hangs_34 ⟨Nat.zero_le _, Nat.zero_le _⟩) hW hA (fun r9 σ8 H locs h hW => ?_)
        try dsimp only at h
        refine lv_iand hx hb dX11_hangs_37 ?_
        refine x_calli (va_runS (As := [.int (r7 &&& r9)]) (rest := []) ⟨hx, hb, hml, hown, hts⟩ (J_J6_bitCount_0f7a4 l hI h) (va_cwS 1 hts gX11_hangs_J6_bitCount_0f7a4 rfl rfl rfl hdS_J6_bitCount_0f7a4 ⟨Nat.le_of_ble_eq_true rfl, Nat.le_of_ble_eq_true rfl⟩) (x_preS hK hZ hA hW) rfl rfl hl.1 rfl (lv_room (Nat.le_of_ble_eq_true rfl)) dX11_hangs_38 ⟨Nat.zero_le _, Nat.zero_le _⟩) hW hA (fun r11 σ10 H locs h hW => ?_)
        try dsimp only at h
        refine lv_istore (lv' := [(4, .int r11), (0, .ref (ad 0)), (1, .int x1), (2, .int x2), (3, .int x3)]) hx hb dX11_hangs_41 hl (by decide) rfl (fun ls hl => ?_)
        refine lv_iload hx hb dX11_hangs_43 (lv_at hl 0 rfl) ?_
        refine lv_iload_n hx hb dX11_hangs_45 rfl (lv_at hl 3 rfl) ?_
        refine lv_icmp_le (tgt := 54) hx hb dX11_hangs_46 (by decide) (fun c12 => ?_) (fun c12 => ?_)
        · have h := h.1 c12
          exact blk54  k6 hk6 x1 x2 x3 _ _ _ _ hW (lv_sub hl [1, 2, 3, 4] rfl) h
        · have h := h.2 c12
          refine lv_iload_n hx hb dX11_hangs_49 rfl (lv_at hl 4 rfl) ?_
          refine lv_istore_n (lv' := [(1, .int x3), (4, .int r11), (0, .ref (ad 0)), (2, .int x2), (3, .int x3)]) hx hb dX11_hangs_50 rfl hl (by decide) rfl (fun ls hl => ?_)
          refine lv_iload hx hb dX11_hangs_51 (lv_at hl 1 rfl) ?_
          refine lv_istore_n (lv' := [(2, .int r11), (1, .int x3), (4, .int r11), (0, .ref (ad 0)), (3, .int x3)]) hx hb dX11_hangs_53 rfl hl (by decide) rfl (fun ls hl => ?_)
          exact blk54  k6 hk6 x3 r11 x3 _ _ _ _ hW (lv_sub hl [3, 1, 0, 4] rfl) h
  have main : ∀ (H : Heap) (locs : List Loc) (ls : Array Slot), xW D KA layX stX ad ids (xA ad ids s.heap.size) s.heap σ H locs → lv_has ls 5 [(0, .ref (ad 0))] → W p l e rmX11_hangs s m args below meth c H locs 0 0 Q (F0 m 0 ls []) := by
    intro H locs ls hW hl
    unfold wX11_hangs at h
    refine lv_iconst (v := (-1)) hx hb dX11_hangs_0 (by decide) ?_
    refine lv_istore_n (lv' := [(1, .int (-1 : Int32)), (0, .ref (ad 0))]) hx hb dX11_hangs_1 rfl hl (by decide) rfl (fun ls hl => ?_)
    refine lv_iconst (v := 0) hx hb dX11_hangs_2 (by decide) ?_
    refine lv_istore_n (lv' := [(2, .int (0 : Int32)), (1, .int (-1 : Int32)), (0, .ref (ad 0))]) hx hb dX11_hangs_3 rfl hl (by decide) rfl (fun ls hl => ?_)
    refine lv_iconst (v := 0) hx hb dX11_hangs_4 (by decide) ?_
    refine lv_istore_n (lv' := [(3, .int (0 : Int32)), (2, .int (0 : Int32)), (1, .int (-1 : Int32)), (0, .ref (ad 0))]) hx hb dX11_hangs_5 rfl hl (by decide) rfl (fun ls hl => ?_)
    obtain ⟨n, h⟩ := h
    exact blk6    n (-1 : Int32) (0 : Int32) (0 : Int32) _ _ _ _ hW (lv_sub hl [3, 2, 1, 0] rfl) h
  exact main _ _ _ hW hl
theorem hwX5_keep_0 : (.fieldLink RX5 23 "FortyBelts$Machine" "isKept" "Z" : Cond) ∈ wsX5_keep := (List.mem_cons_of_mem _ (List.mem_append_left _ (List.mem_of_getElem? (i := 0) rfl)))
theorem hwX5_keep_1 : (.fieldLink RX5 7 "FortyBelts$Machine" "on" "Z" : Cond) ∈ wsX5_keep := (List.mem_cons_of_mem _ (List.mem_append_left _ (List.mem_of_getElem? (i := 1) rfl)))
theorem hwX5_keep_2 : (.fieldLink RX5 26 "FortyBelts$Machine" "keptOn" "Z" : Cond) ∈ wsX5_keep := (List.mem_cons_of_mem _ (List.mem_append_left _ (List.mem_of_getElem? (i := 2) rfl)))
theorem hwX5_keep_3 : (.fieldLink RX5 29 "FortyBelts$Machine" "load" "I" : Cond) ∈ wsX5_keep := (List.mem_cons_of_mem _ (List.mem_append_left _ (List.mem_of_getElem? (i := 3) rfl)))
theorem hwX5_keep_4 : (.fieldLink RX5 32 "FortyBelts$Machine" "keptLoad" "I" : Cond) ∈ wsX5_keep := (List.mem_cons_of_mem _ (List.mem_append_left _ (List.mem_of_getElem? (i := 4) rfl)))
theorem hcX5_keep_X5 : ∀ w ∈ wsX50, w ∈ wsX5_keep := fun _ h => (List.mem_cons_of_mem _ (List.mem_append_right _ h))
set_option maxHeartbeats 4000000 in
set_option maxRecDepth 100000 in
theorem J_X5_keep {D : va_G} {KA : Nat → ClassId} {zs : ZS} {ad : Nat → Nat} {ids : List Nat} {sz : Nat} (l : Launch) (hI : ∀ c, c < 52 ∧ ¬ c = 19 → c ∈ ids) {a0 : Nat} (ok_a0 : okM ids a0) {σ : St} {post : St → Prop} (h : wX5_keep ids a0 σ post) : Met l yX5_keep wsX5_keep rmX5_keep (va_Pc [.ref (ad a0)] (xIn D KA zs layX stX ad ids sz σ)) (va_Qv post (xOut D KA layX stX ad ids) (xA ad ids sz)) 0 0 (xA ad ids sz) := by
  refine Met.ofW (cc := cX5_keep) (maxL := 1) (ret := none) (by decide) rfl ?_
  intro p e s m args below meth c s₁ B hml hv
  obtain ⟨hav, hsz, hK, hZ, hP, hD⟩ := hv
  have hx := B.exec
  have hb := B.bytes
  have hr := B.returns
  have hts := atoms_spec (ws := wsX5_keep) B.pre
  have hown : s.vm.findClass RX5 = some m.cls := findClass_of_methodNamed B.named
  have hlocks := B.notSynchronized
  subst hsz
  have hA : ∀ q : Nat, s.heap.size ≤ q → xA ad ids s.heap.size q := fun q h => Or.inr h
  have hW : xW D KA layX stX ad ids (xA ad ids s.heap.size) s.heap σ s.heap [] := ⟨hP, xA_D (D := D) hD, va_S.rf⟩
  have kr : ∀ (σ : St) (H : Heap) (locs : List Loc) (ls : Array Slot) (pc : Nat), xW D KA layX stX ad ids (xA ad ids s.heap.size) s.heap σ H locs → post σ → decode cX5_keep pc = .ok (.return_, 1) → W p l e rmX5_keep s m args below meth c H locs 0 0 (MQ below (va_Qv post (xOut D KA layX stX ad ids) (xA ad ids s.heap.size)) args s 0 0 (xA ad ids s.heap.size)) (F0 m pc ls []) := fun σ H locs ls pc hW h hd => x_vret hx hb hr hlocks hW h hd
  have hl := lv_entry ([.ref (ad a0)]) (n := 1) (Nat.le_of_ble_eq_true rfl)
  rw [show entryFrame m args 1 = entryFrame m ([.ref (ad a0)] : List Value).toArray 1 from by rw [hav]]
  rw [lg_entry_eq]
  generalize (lg_sl ([.ref (ad a0)]) ++ List.replicate (1 - (lg_sl ([.ref (ad a0)])).length) Slot.unset).toArray = ls at hl ⊢
  have hl : lv_has ls 1 [(0, .ref (ad a0))] := hl
  show W p l e rmX5_keep s m args below meth c s.heap [] 0 0 _ _
  generalize MQ below (va_Qv post (xOut D KA layX stX ad ids) (xA ad ids s.heap.size)) args s 0 0 (xA ad ids s.heap.size) = Q at kr ⊢
  have main : ∀ (H : Heap) (locs : List Loc) (ls : Array Slot), xW D KA layX stX ad ids (xA ad ids s.heap.size) s.heap σ H locs → lv_has ls 1 [(0, .ref (ad a0))] → W p l e rmX5_keep s m args below meth c H locs 0 0 Q (F0 m 0 ls []) := by
    intro H locs ls hW hl
    unfold wX5_keep at h
    refine lv_aload_n hx hb dX5_keep_0 rfl (lv_at hl 0 rfl) ?_
    refine lv_iconst (v := 1) hx hb dX5_keep_1 (by decide) ?_
    refine xpX5_6 hx hb hts hown hK hW a0 hcX5_keep_X5 ok_a0.1 (lay_okM ok_a0) (hts _ hwX5_keep_0) isB_1 dX5_keep_2 (fun σ1001 H locs hσ1001 hW => ?_)
    have h := h σ1001 hσ1001
    refine lv_aload_n hx hb dX5_keep_5 rfl (lv_at hl 0 rfl) ?_
    refine lv_aload_n hx hb dX5_keep_6 rfl (lv_at hl 0 rfl) ?_
    refine xgX5_5 hx hb hts hown hK hW a0 hcX5_keep_X5 ok_a0.1 (lay_okM ok_a0) (hts _ hwX5_keep_1) dX5_keep_7 ?_
    obtain ⟨hz1002, h⟩ := h
    refine xpX5_7 hx hb hts hown hK hW a0 hcX5_keep_X5 ok_a0.1 (lay_okM ok_a0) (hts _ hwX5_keep_2) hz1002 dX5_keep_10 (fun σ1003 H locs hσ1003 hW => ?_)
    have h := h σ1003 hσ1003
    refine lv_aload_n hx hb dX5_keep_13 rfl (lv_at hl 0 rfl) ?_
    refine lv_aload_n hx hb dX5_keep_14 rfl (lv_at hl 0 rfl) ?_
    refine xgX5_3 hx hb hts hown hK hW a0 hcX5_keep_X5 ok_a0.1 (lay_okM ok_a0) (hts _ hwX5_keep_3) dX5_keep_15 ?_
    refine xpX5_8 hx hb hts hown hK hW a0 hcX5_keep_X5 ok_a0.1 (lay_okM ok_a0) (hts _ hwX5_keep_4) dX5_keep_18 (fun σ1004 H locs hσ1004 hW => ?_)
    have h := h σ1004 hσ1004
    exact kr _ _ _ _ _ hW h dX5_keep_21
  exact main _ _ _ hW hl
theorem hwX6_keep_0 : (.fieldLink RX6 59 "FortyBelts$Mill" "machineCount" "I" : Cond) ∈ wsX6_keep := (List.mem_cons_of_mem _ (List.mem_append_left _ (List.mem_append_left _ (List.mem_append_left _ (List.mem_append_left _ (List.mem_append_left _ (List.mem_append_left _ (List.mem_append_left _ (List.mem_append_left _ (List.mem_append_left _ (List.mem_of_getElem? (i := 6) rfl)))))))))))
theorem hwX6_keep_1 : (.fieldLink RX6 33 "FortyBelts$Mill" "machines" "[LFortyBelts$Machine;" : Cond) ∈ wsX6_keep := (List.mem_cons_of_mem _ (List.mem_append_left _ (List.mem_append_left _ (List.mem_append_left _ (List.mem_append_left _ (List.mem_append_left _ (List.mem_append_left _ (List.mem_append_left _ (List.mem_append_left _ (List.mem_append_left _ (List.mem_of_getElem? (i := 7) rfl)))))))))))
theorem hwX6_keep_2 : (.fieldLink RX6 65 "FortyBelts$Mill" "beltCount" "I" : Cond) ∈ wsX6_keep := (List.mem_cons_of_mem _ (List.mem_append_left _ (List.mem_append_left _ (List.mem_append_left _ (List.mem_append_left _ (List.mem_append_left _ (List.mem_append_left _ (List.mem_append_left _ (List.mem_append_left _ (List.mem_append_left _ (List.mem_of_getElem? (i := 4) rfl)))))))))))
theorem hwX6_keep_3 : (.fieldLink RX6 42 "FortyBelts$Mill" "belts" "[LFortyBelts$Belt;" : Cond) ∈ wsX6_keep := (List.mem_cons_of_mem _ (List.mem_append_left _ (List.mem_append_left _ (List.mem_append_left _ (List.mem_append_left _ (List.mem_append_left _ (List.mem_append_left _ (List.mem_append_left _ (List.mem_append_left _ (List.mem_append_left _ (List.mem_of_getElem? (i := 5) rfl)))))))))))
theorem hwX6_keep_4 : (.fieldLink RX6 49 "FortyBelts$Mill" "engineTurns" "I" : Cond) ∈ wsX6_keep := (List.mem_cons_of_mem _ (List.mem_append_left _ (List.mem_append_left _ (List.mem_append_left _ (List.mem_append_left _ (List.mem_append_left _ (List.mem_append_left _ (List.mem_append_left _ (List.mem_append_left _ (List.mem_append_left _ (List.mem_of_getElem? (i := 0) rfl)))))))))))
theorem hwX6_keep_5 : (.fieldLink RX6 171 "FortyBelts$Mill" "keptTurns" "I" : Cond) ∈ wsX6_keep := (List.mem_cons_of_mem _ (List.mem_append_left _ (List.mem_append_left _ (List.mem_append_left _ (List.mem_append_left _ (List.mem_append_left _ (List.mem_append_left _ (List.mem_append_left _ (List.mem_append_left _ (List.mem_append_left _ (List.mem_of_getElem? (i := 1) rfl)))))))))))
theorem hwX6_keep_6 : (.fieldLink RX6 53 "FortyBelts$Mill" "power" "I" : Cond) ∈ wsX6_keep := (List.mem_cons_of_mem _ (List.mem_append_left _ (List.mem_append_left _ (List.mem_append_left _ (List.mem_append_left _ (List.mem_append_left _ (List.mem_append_left _ (List.mem_append_left _ (List.mem_append_left _ (List.mem_append_left _ (List.mem_of_getElem? (i := 2) rfl)))))))))))
theorem hwX6_keep_7 : (.fieldLink RX6 174 "FortyBelts$Mill" "keptPower" "I" : Cond) ∈ wsX6_keep := (List.mem_cons_of_mem _ (List.mem_append_left _ (List.mem_append_left _ (List.mem_append_left _ (List.mem_append_left _ (List.mem_append_left _ (List.mem_append_left _ (List.mem_append_left _ (List.mem_append_left _ (List.mem_append_left _ (List.mem_of_getElem? (i := 3) rfl)))))))))))
theorem hcX6_keep_X6 : ∀ w ∈ wsX60, w ∈ wsX6_keep := fun _ h => (List.mem_cons_of_mem _ (List.mem_append_left _ (List.mem_append_left _ (List.mem_append_left _ (List.mem_append_left _ (List.mem_append_left _ (List.mem_append_left _ (List.mem_append_left _ (List.mem_append_right _ h)))))))))
set_option maxHeartbeats 4000000 in
set_option maxRecDepth 100000 in
theorem J_X6_keep {D : va_G} {KA : Nat → ClassId} {zs : ZS} {ad : Nat → Nat} {ids : List Nat} {sz : Nat} (l : Launch) (hI : ∀ c, c < 52 ∧ ¬ c = 19 → c ∈ ids)   {σ : St} {post : St → Prop} (h : wX6_keep ids  σ post) : Met l yX6_keep wsX6_keep rmX6_keep (va_Pc [.ref (ad 1)] (xIn D KA zs layX stX ad ids sz σ)) (va_Qv post (xOut D KA layX stX ad ids) (xA ad ids sz)) 0 0 (xA ad ids sz) := by
  refine Met.ofW (cc := cX6_keep) (maxL := 2) (ret := none) (by decide) rfl ?_
  intro p e s m args below meth c s₁ B hml hv
  obtain ⟨hav, hsz, hK, hZ, hP, hD⟩ := hv
  have hx := B.exec
  have hb := B.bytes
  have hr := B.returns
  have hts := atoms_spec (ws := wsX6_keep) B.pre
  have hown : s.vm.findClass RX6 = some m.cls := findClass_of_methodNamed B.named
  have hlocks := B.notSynchronized
  subst hsz
  have hA : ∀ q : Nat, s.heap.size ≤ q → xA ad ids s.heap.size q := fun q h => Or.inr h
  have hW : xW D KA layX stX ad ids (xA ad ids s.heap.size) s.heap σ s.heap [] := ⟨hP, xA_D (D := D) hD, va_S.rf⟩
  have kr : ∀ (σ : St) (H : Heap) (locs : List Loc) (ls : Array Slot) (pc : Nat), xW D KA layX stX ad ids (xA ad ids s.heap.size) s.heap σ H locs → post σ → decode cX6_keep pc = .ok (.return_, 1) → W p l e rmX6_keep s m args below meth c H locs 0 0 (MQ below (va_Qv post (xOut D KA layX stX ad ids) (xA ad ids s.heap.size)) args s 0 0 (xA ad ids s.heap.size)) (F0 m pc ls []) := fun σ H locs ls pc hW h hd => x_vret hx hb hr hlocks hW h hd
  have hl := lv_entry ([.ref (ad 1)]) (n := 2) (Nat.le_of_ble_eq_true rfl)
  rw [show entryFrame m args 2 = entryFrame m ([.ref (ad 1)] : List Value).toArray 2 from by rw [hav]]
  rw [lg_entry_eq]
  generalize (lg_sl ([.ref (ad 1)]) ++ List.replicate (2 - (lg_sl ([.ref (ad 1)])).length) Slot.unset).toArray = ls at hl ⊢
  have hl : lv_has ls 2 [(0, .ref (ad 1))] := hl
  show W p l e rmX6_keep s m args below meth c s.heap [] 0 0 _ _
  generalize MQ below (va_Qv post (xOut D KA layX stX ad ids) (xA ad ids s.heap.size)) args s 0 0 (xA ad ids s.heap.size) = Q at kr ⊢
  have blk43 : ∀ (n : Nat) (x1 : Int32) (σ : St) (H : Heap) (locs : List Loc) (ls : Array Slot), xW D KA layX stX ad ids (xA ad ids s.heap.size) s.heap σ H locs → lv_has ls 2 [(0, .ref (ad 1)), (1, .int x1)] → wX6_keep_43 ids post  n x1 σ → W p l e rmX6_keep s m args below meth c H locs 0 0 Q (F0 m 43 ls []) := by
    intro    n
    induction n with
    | zero => intro x1 σ H locs ls hW hl h; exact (h : False).elim
    | succ n ih =>
      intro x1 σ H locs ls hW hl h
      have hk43 : ∀ (x1 : Int32) (σ : St) (H : Heap) (locs : List Loc) (ls : Array Slot), xW D KA layX stX ad ids (xA ad ids s.heap.size) s.heap σ H locs → lv_has ls 2 [(0, .ref (ad 1)), (1, .int x1)] → (wX6_keep_43 ids post  n) x1 σ → W p l e rmX6_keep s m args below meth c H locs 0 0 Q (F0 m 43 ls []) := fun x1 σ H locs ls hW hl h => ih x1 σ H locs ls hW hl h
      rw [wX6_keep_43_s] at h
      try dsimp only at h
      generalize wX6_keep_43 ids post  n = k43 at h hk43
      refine lv_iload_n hx hb dX6_keep_43 rfl (lv_at hl 1 rfl) ?_
      refine lv_aload_n hx hb dX6_keep_44 rfl (lv_at hl 0 rfl) ?_
      refine xgX6_1 hx hb hts hown hK hW 1 hcX6_keep_X6 (hI 1 (by decide)) lX_1 (hts _ hwX6_keep_0) dX6_keep_45 ?_
      refine lv_icmp_ge (tgt := 66) hx hb dX6_keep_48 (by decide) (fun c1 => ?_) (fun c1 => ?_)
      · have h := h.1 c1
        exact kr _ _ _ _ _ hW h dX6_keep_66
      · have h := h.2 c1
        refine lv_aload_n hx hb dX6_keep_51 rfl (lv_at hl 0 rfl) ?_
        refine xgX6_10r hx hb hts hown hK hW 1 hcX6_keep_X6 (hI 1 (by decide)) lX_1 (hts _ hwX6_keep_1) (sX_1_10 _) dX6_keep_52 ?_
        refine lv_iload_n hx hb dX6_keep_55 rfl (lv_at hl 1 rfl) ?_
        obtain ⟨hi2, h⟩ := h
        obtain ⟨o3, hr4, ok_o3, h⟩ := h
        refine x_ald hx hb hK hW 9 1 (hI 9 (by decide)) lX_9 rfl hi2 ((sX_9 _ _).trans hr4) dX6_keep_56 ?_
        refine x_callv (va_runV (As := []) (rest := []) ⟨hx, hb, hml, hown, hts⟩ (J_X5_keep l hI ok_o3 h) (cwV 0 hts gX6_keep_X5_keep rfl rfl rfl hdV_X5_keep ⟨Nat.le_of_ble_eq_true rfl, Nat.le_of_ble_eq_true rfl⟩) (x_preV (ci := 5) hK hZ hA hW ok_o3.1 (lay_okM ok_o3) rfl) rfl rfl hl.1 rfl (lv_room (Nat.le_of_ble_eq_true rfl)) dX6_keep_57 ⟨Nat.zero_le _, Nat.zero_le _⟩) hW hA (fun σ5 H locs h hW => ?_)
        try dsimp only at h
        obtain ⟨v6, hv6⟩ : ∃ y : Int32, y = x1 + (1 : Int32) := ⟨_, rfl⟩
        have h := h v6 hv6
        refine lv_iinc (v := v6) (lv' := [(1, .int v6), (0, .ref (ad 1))]) hx hb dX6_keep_60 hl (k := 1) rfl (by rw [hv6]; rfl) (by decide) rfl (fun ls hl => ?_)
        refine lv_goto (tgt := 43) hx hb dX6_keep_63 (by decide) ?_
        exact hk43 v6 _ _ _ _ hW (lv_sub hl [1, 0] rfl) h
  have blk18 : ∀ (n : Nat) (x1 : Int32) (σ : St) (H : Heap) (locs : List Loc) (ls : Array Slot), xW D KA layX stX ad ids (xA ad ids s.heap.size) s.heap σ H locs → lv_has ls 2 [(0, .ref (ad 1)), (1, .int x1)] → wX6_keep_18 ids post  n x1 σ → W p l e rmX6_keep s m args below meth c H locs 0 0 Q (F0 m 18 ls []) := by
    intro    n
    induction n with
    | zero => intro x1 σ H locs ls hW hl h; exact (h : False).elim
    | succ n ih =>
      intro x1 σ H locs ls hW hl h
      have hk18 : ∀ (x1 : Int32) (σ : St) (H : Heap) (locs : List Loc) (ls : Array Slot), xW D KA layX stX ad ids (xA ad ids s.heap.size) s.heap σ H locs → lv_has ls 2 [(0, .ref (ad 1)), (1, .int x1)] → (wX6_keep_18 ids post  n) x1 σ → W p l e rmX6_keep s m args below meth c H locs 0 0 Q (F0 m 18 ls []) := fun x1 σ H locs ls hW hl h => ih x1 σ H locs ls hW hl h
      rw [wX6_keep_18_s] at h
      try dsimp only at h
      generalize wX6_keep_18 ids post  n = k18 at h hk18
      refine lv_iload_n hx hb dX6_keep_18 rfl (lv_at hl 1 rfl) ?_
      refine lv_aload_n hx hb dX6_keep_19 rfl (lv_at hl 0 rfl) ?_
      refine xgX6_3 hx hb hts hown hK hW 1 hcX6_keep_X6 (hI 1 (by decide)) lX_1 (hts _ hwX6_keep_2) dX6_keep_20 ?_
      refine lv_icmp_ge (tgt := 41) hx hb dX6_keep_23 (by decide) (fun c7 => ?_) (fun c7 => ?_)
      · have h := h.1 c7
        refine lv_iconst (v := 0) hx hb dX6_keep_41 (by decide) ?_
        refine lv_istore_n (lv' := [(1, .int (0 : Int32)), (0, .ref (ad 1))]) hx hb dX6_keep_42 rfl hl (by decide) rfl (fun ls hl => ?_)
        obtain ⟨n, h⟩ := h
        exact blk43    n (0 : Int32) _ _ _ _ hW (lv_sub hl [1, 0] rfl) h
      · have h := h.2 c7
        refine lv_aload_n hx hb dX6_keep_26 rfl (lv_at hl 0 rfl) ?_
        refine xgX6_12r hx hb hts hown hK hW 1 hcX6_keep_X6 (hI 1 (by decide)) lX_1 (hts _ hwX6_keep_3) (sX_1_12 _) dX6_keep_27 ?_
        refine lv_iload_n hx hb dX6_keep_30 rfl (lv_at hl 1 rfl) ?_
        obtain ⟨hi9, h⟩ := h
        obtain ⟨o10, hr11, ok_o10, h⟩ := h
        refine x_ald hx hb hK hW 11 0 (hI 11 (by decide)) lX_11 rfl hi9 ((sX_11 _ _).trans hr11) dX6_keep_31 ?_
        have hr12 : ∀ post : St → Prop, wX0_keep ids o10 σ post → va_Run p l e rmX6_keep s m args below meth c H locs 0 0 0 0 (F0 m 32 ls ([].reverse ++ .ref (ad o10) :: [])) [] (va_Qv post (xOut D KA layX stX ad ids) (xA ad ids H.size) (Value.ref (ad o10) :: []).toArray) (xA ad ids H.size) := by
          intro post h
          rcases (okB_cases ok_o10) with hq | hq | hq | hq | hq | hq
          · exact va_runV (As := []) (rest := []) ⟨hx, hb, hml, hown, hts⟩ (J_X0_keep l hI ok_o10 h) (cwV 0 hts gX6_keep_X0_keep rfl rfl rfl hdV_X0_keep ⟨Nat.le_of_ble_eq_true rfl, Nat.le_of_ble_eq_true rfl⟩) (x_preV (ci := 0) hK hZ hA hW ok_o10.1 (lay_okB0 ok_o10 hq) rfl) rfl rfl hl.1 rfl (lv_room (Nat.le_of_ble_eq_true rfl)) dX6_keep_32 ⟨Nat.zero_le _, Nat.zero_le _⟩
          · exact va_runU (As := []) (rest := []) ⟨hx, hb, hml, hown, hts⟩ (J_X0_keep l hI ok_o10 h) (va_cwU 0 hts gX6_keep_X0_keep_u177X2 rfl rfl rfl rfl (by decide +kernel) ⟨Nat.le_of_ble_eq_true rfl, Nat.le_of_ble_eq_true rfl⟩) (x_preV (ci := 2) hK hZ hA hW ok_o10.1 (lay_okB1 ok_o10 hq) rfl) rfl rfl hl.1 rfl (lv_room (Nat.le_of_ble_eq_true rfl)) dX6_keep_32 ⟨Nat.zero_le _, Nat.zero_le _⟩
          · exact va_runU (As := []) (rest := []) ⟨hx, hb, hml, hown, hts⟩ (J_X0_keep l hI ok_o10 h) (va_cwU 0 hts gX6_keep_X0_keep_u177X3 rfl rfl rfl rfl (by decide +kernel) ⟨Nat.le_of_ble_eq_true rfl, Nat.le_of_ble_eq_true rfl⟩) (x_preV (ci := 3) hK hZ hA hW ok_o10.1 (lay_okB2 ok_o10 hq) rfl) rfl rfl hl.1 rfl (lv_room (Nat.le_of_ble_eq_true rfl)) dX6_keep_32 ⟨Nat.zero_le _, Nat.zero_le _⟩
          · exact va_runU (As := []) (rest := []) ⟨hx, hb, hml, hown, hts⟩ (J_X0_keep l hI ok_o10 h) (va_cwU 0 hts gX6_keep_X0_keep_u177X1 rfl rfl rfl rfl (by decide +kernel) ⟨Nat.le_of_ble_eq_true rfl, Nat.le_of_ble_eq_true rfl⟩) (x_preV (ci := 1) hK hZ hA hW ok_o10.1 (lay_okB3 ok_o10 hq) rfl) rfl rfl hl.1 rfl (lv_room (Nat.le_of_ble_eq_true rfl)) dX6_keep_32 ⟨Nat.zero_le _, Nat.zero_le _⟩
          · exact va_runU (As := []) (rest := []) ⟨hx, hb, hml, hown, hts⟩ (J_X0_keep l hI ok_o10 h) (va_cwU 0 hts gX6_keep_X0_keep_u177X4 rfl rfl rfl rfl (by decide +kernel) ⟨Nat.le_of_ble_eq_true rfl, Nat.le_of_ble_eq_true rfl⟩) (x_preV (ci := 4) hK hZ hA hW ok_o10.1 (lay_okB4 ok_o10 hq) rfl) rfl rfl hl.1 rfl (lv_room (Nat.le_of_ble_eq_true rfl)) dX6_keep_32 ⟨Nat.zero_le _, Nat.zero_le _⟩
          · exact va_runU (As := []) (rest := []) ⟨hx, hb, hml, hown, hts⟩ (J_X0_keep l hI ok_o10 h) (va_cwU 0 hts gX6_keep_X0_keep_u177X10 rfl rfl rfl rfl (by decide +kernel) ⟨Nat.le_of_ble_eq_true rfl, Nat.le_of_ble_eq_true rfl⟩) (x_preV (ci := 10) hK hZ hA hW ok_o10.1 (lay_okB5 ok_o10 hq) rfl) rfl rfl hl.1 rfl (lv_room (Nat.le_of_ble_eq_true rfl)) dX6_keep_32 ⟨Nat.zero_le _, Nat.zero_le _⟩
        refine x_callv (hr12 _ h) hW hA (fun σ13 H locs h hW => ?_)
        try dsimp only at h
        obtain ⟨v14, hv14⟩ : ∃ y : Int32, y = x1 + (1 : Int32) := ⟨_, rfl⟩
        have h := h v14 hv14
        refine lv_iinc (v := v14) (lv' := [(1, .int v14), (0, .ref (ad 1))]) hx hb dX6_keep_35 hl (k := 1) rfl (by rw [hv14]; rfl) (by decide) rfl (fun ls hl => ?_)
        refine lv_goto (tgt := 18) hx hb dX6_keep_38 (by decide) ?_
        exact hk18 v14 _ _ _ _ hW (lv_sub hl [1, 0] rfl) h
  have main : ∀ (H : Heap) (locs : List Loc) (ls : Array Slot), xW D KA layX stX ad ids (xA ad ids s.heap.size) s.heap σ H locs → lv_has ls 2 [(0, .ref (ad 1))] → W p l e rmX6_keep s m args below meth c H locs 0 0 Q (F0 m 0 ls []) := by
    intro H locs ls hW hl
    unfold wX6_keep at h
    refine lv_aload_n hx hb dX6_keep_0 rfl (lv_at hl 0 rfl) ?_
    refine lv_aload_n hx hb dX6_keep_1 rfl (lv_at hl 0 rfl) ?_
    refine xgX6_14 hx hb hts hown hK hW 1 hcX6_keep_X6 (hI 1 (by decide)) lX_1 (hts _ hwX6_keep_4) dX6_keep_2 ?_
    refine xpX6_16 hx hb hts hown hK hW 1 hcX6_keep_X6 (hI 1 (by decide)) lX_1 (hts _ hwX6_keep_5) dX6_keep_5 (fun σ1001 H locs hσ1001 hW => ?_)
    have h := h σ1001 hσ1001
    refine lv_aload_n hx hb dX6_keep_8 rfl (lv_at hl 0 rfl) ?_
    refine lv_aload_n hx hb dX6_keep_9 rfl (lv_at hl 0 rfl) ?_
    refine xgX6_15 hx hb hts hown hK hW 1 hcX6_keep_X6 (hI 1 (by decide)) lX_1 (hts _ hwX6_keep_6) dX6_keep_10 ?_
    refine xpX6_17 hx hb hts hown hK hW 1 hcX6_keep_X6 (hI 1 (by decide)) lX_1 (hts _ hwX6_keep_7) dX6_keep_13 (fun σ1002 H locs hσ1002 hW => ?_)
    have h := h σ1002 hσ1002
    refine lv_iconst (v := 0) hx hb dX6_keep_16 (by decide) ?_
    refine lv_istore_n (lv' := [(1, .int (0 : Int32)), (0, .ref (ad 1))]) hx hb dX6_keep_17 rfl hl (by decide) rfl (fun ls hl => ?_)
    obtain ⟨n, h⟩ := h
    exact blk18    n (0 : Int32) _ _ _ _ hW (lv_sub hl [1, 0] rfl) h
  exact main _ _ _ hW hl
theorem hwX11_image_0 : (.fieldLink RX11 10 "FortyBelts" "mill" "LFortyBelts$Mill;" : Cond) ∈ wsX11_image := (List.mem_cons_of_mem _ (List.mem_append_left _ (List.mem_append_left _ (List.mem_append_left _ (List.mem_append_left _ (List.mem_append_left _ (List.mem_append_left _ (List.mem_append_left _ (List.mem_append_left _ (List.mem_append_left _ (List.mem_append_left _ (List.mem_of_getElem? (i := 0) rfl))))))))))))
theorem hwX11_image_1 : (.fieldLink RX11 243 "FortyBelts" "rule" "I" : Cond) ∈ wsX11_image := (List.mem_cons_of_mem _ (List.mem_append_left _ (List.mem_append_left _ (List.mem_append_left _ (List.mem_append_left _ (List.mem_append_left _ (List.mem_append_left _ (List.mem_append_left _ (List.mem_append_left _ (List.mem_append_left _ (List.mem_append_left _ (List.mem_of_getElem? (i := 1) rfl))))))))))))
theorem hwX11_image_2 : (.fieldLink RX11 314 "FortyBelts" "imageRule" "I" : Cond) ∈ wsX11_image := (List.mem_cons_of_mem _ (List.mem_append_left _ (List.mem_append_left _ (List.mem_append_left _ (List.mem_append_left _ (List.mem_append_left _ (List.mem_append_left _ (List.mem_append_left _ (List.mem_append_left _ (List.mem_append_left _ (List.mem_append_left _ (List.mem_of_getElem? (i := 2) rfl))))))))))))
theorem hwX11_image_3 : (.fieldLink RX11 317 "FortyBelts" "hasImage" "Z" : Cond) ∈ wsX11_image := (List.mem_cons_of_mem _ (List.mem_append_left _ (List.mem_append_left _ (List.mem_append_left _ (List.mem_append_left _ (List.mem_append_left _ (List.mem_append_left _ (List.mem_append_left _ (List.mem_append_left _ (List.mem_append_left _ (List.mem_append_left _ (List.mem_of_getElem? (i := 3) rfl))))))))))))
theorem hwX11_image_4 : (.fieldLink RX11 145 "FortyBelts$Mill" "beltCount" "I" : Cond) ∈ wsX11_image := (List.mem_cons_of_mem _ (List.mem_append_left _ (List.mem_append_left _ (List.mem_append_left _ (List.mem_append_left _ (List.mem_append_left _ (List.mem_append_left _ (List.mem_append_left _ (List.mem_append_left _ (List.mem_append_left _ (List.mem_append_left _ (List.mem_of_getElem? (i := 4) rfl))))))))))))
theorem hcX11_image_X11 : ∀ w ∈ wsX110, w ∈ wsX11_image := fun _ h => (List.mem_cons_of_mem _ (List.mem_append_left _ (List.mem_append_left _ (List.mem_append_left _ (List.mem_append_left _ (List.mem_append_left _ (List.mem_append_left _ (List.mem_append_left _ (List.mem_append_left _ (List.mem_append_right _ h))))))))))
theorem hcX11_image_X6 : ∀ w ∈ wsX60, w ∈ wsX11_image := fun _ h => (List.mem_cons_of_mem _ (List.mem_append_left _ (List.mem_append_left _ (List.mem_append_left _ (List.mem_append_left _ (List.mem_append_left _ (List.mem_append_left _ (List.mem_append_left _ (List.mem_append_right _ h)))))))))
set_option maxHeartbeats 4000000 in
set_option maxRecDepth 100000 in
theorem J_X11_image {D : va_G} {KA : Nat → ClassId} {zs : ZS} {ad : Nat → Nat} {ids : List Nat} {sz : Nat} (l : Launch) (hI : ∀ c, c < 52 ∧ ¬ c = 19 → c ∈ ids)   {σ : St} {post : Int32 → St → Prop} (h : wX11_image ids  σ post) : Met l yX11_image wsX11_image rmX11_image (va_Pc [.ref (ad 0)] (xIn D KA zs layX stX ad ids sz σ)) (va_Qi post (xOut D KA layX stX ad ids) (xA ad ids sz)) 0 0 (xA ad ids sz) := by
  refine Met.ofW (cc := cX11_image) (maxL := 1) (ret := (some .int)) (by decide) rfl ?_
  intro p e s m args below meth c s₁ B hml hv
  obtain ⟨hav, hsz, hK, hZ, hP, hD⟩ := hv
  have hx := B.exec
  have hb := B.bytes
  have hr := B.returns
  have hts := atoms_spec (ws := wsX11_image) B.pre
  have hown : s.vm.findClass RX11 = some m.cls := findClass_of_methodNamed B.named
  have hlocks := B.notSynchronized
  subst hsz
  have hA : ∀ q : Nat, s.heap.size ≤ q → xA ad ids s.heap.size q := fun q h => Or.inr h
  have hW : xW D KA layX stX ad ids (xA ad ids s.heap.size) s.heap σ s.heap [] := ⟨hP, xA_D (D := D) hD, va_S.rf⟩
  have kr : ∀ (v : Int32) (σ : St) (H : Heap) (locs : List Loc) (ls : Array Slot) (pc : Nat), xW D KA layX stX ad ids (xA ad ids s.heap.size) s.heap σ H locs → post v σ → decode cX11_image pc = .ok (.ireturn, 1) → W p l e rmX11_image s m args below meth c H locs 0 0 (MQ below (va_Qi post (xOut D KA layX stX ad ids) (xA ad ids s.heap.size)) args s 0 0 (xA ad ids s.heap.size)) (F0 m pc ls [.int v]) := fun v σ H locs ls pc hW h hd => x_iret hx hb hr hlocks hW h hd
  have hl := lv_entry ([.ref (ad 0)]) (n := 1) (Nat.le_of_ble_eq_true rfl)
  rw [show entryFrame m args 1 = entryFrame m ([.ref (ad 0)] : List Value).toArray 1 from by rw [hav]]
  rw [lg_entry_eq]
  generalize (lg_sl ([.ref (ad 0)]) ++ List.replicate (1 - (lg_sl ([.ref (ad 0)])).length) Slot.unset).toArray = ls at hl ⊢
  have hl : lv_has ls 1 [(0, .ref (ad 0))] := hl
  show W p l e rmX11_image s m args below meth c s.heap [] 0 0 _ _
  generalize MQ below (va_Qi post (xOut D KA layX stX ad ids) (xA ad ids s.heap.size)) args s 0 0 (xA ad ids s.heap.size) = Q at kr ⊢
  have main : ∀ (H : Heap) (locs : List Loc) (ls : Array Slot), xW D KA layX stX ad ids (xA ad ids s.heap.size) s.heap σ H locs → lv_has ls 1 [(0, .ref (ad 0))] → W p l e rmX11_image s m args below meth c H locs 0 0 Q (F0 m 0 ls []) := by
    intro H locs ls hW hl
    unfold wX11_image at h
    refine lv_aload_n hx hb dX11_image_0 rfl (lv_at hl 0 rfl) ?_
    refine xgX11_0r hx hb hts hown hK hW 0 hcX11_image_X11 (hI 0 (by decide)) lX_0 (hts _ hwX11_image_0) (sX_0_0 _) dX11_image_1 ?_
    refine x_callv (va_runV (As := []) (rest := []) ⟨hx, hb, hml, hown, hts⟩ (J_X6_keep l hI h) (cwV 0 hts gX11_image_X6_keep rfl rfl rfl hdV_X6_keep ⟨Nat.le_of_ble_eq_true rfl, Nat.le_of_ble_eq_true rfl⟩) (x_preV (ci := 6) hK hZ hA hW (hI 1 (by decide)) lX_1 rfl) rfl rfl hl.1 rfl (lv_room (Nat.le_of_ble_eq_true rfl)) dX11_image_4 ⟨Nat.zero_le _, Nat.zero_le _⟩) hW hA (fun σ1001 H locs h hW => ?_)
    try dsimp only at h
    refine lv_aload_n hx hb dX11_image_7 rfl (lv_at hl 0 rfl) ?_
    refine lv_aload_n hx hb dX11_image_8 rfl (lv_at hl 0 rfl) ?_
    refine xgX11_4 hx hb hts hown hK hW 0 hcX11_image_X11 (hI 0 (by decide)) lX_0 (hts _ hwX11_image_1) dX11_image_9 ?_
    refine xpX11_12 hx hb hts hown hK hW 0 hcX11_image_X11 (hI 0 (by decide)) lX_0 (hts _ hwX11_image_2) dX11_image_12 (fun σ1002 H locs hσ1002 hW => ?_)
    have h := h σ1002 hσ1002
    refine lv_aload_n hx hb dX11_image_15 rfl (lv_at hl 0 rfl) ?_
    refine lv_iconst (v := 1) hx hb dX11_image_16 (by decide) ?_
    refine xpX11_11 hx hb hts hown hK hW 0 hcX11_image_X11 (hI 0 (by decide)) lX_0 (hts _ hwX11_image_3) isB_1 dX11_image_17 (fun σ1003 H locs hσ1003 hW => ?_)
    have h := h σ1003 hσ1003
    refine lv_aload_n hx hb dX11_image_20 rfl (lv_at hl 0 rfl) ?_
    refine xgX11_0r hx hb hts hown hK hW 0 hcX11_image_X11 (hI 0 (by decide)) lX_0 (hts _ hwX11_image_0) (sX_0_0 _) dX11_image_21 ?_
    refine xgX6_3 hx hb hts hown hK hW 1 hcX11_image_X6 (hI 1 (by decide)) lX_1 (hts _ hwX11_image_4) dX11_image_24 ?_
    exact kr _ _ _ _ _ _ hW h dX11_image_27
  exact main _ _ _ hW hl
theorem hwX6_init_0 : (.methodLink RX6 5 objectInit : Cond) ∈ wsX6_init := (List.mem_cons_of_mem _ (List.mem_append_left _ (List.mem_of_getElem? (i := 0) rfl)))
theorem hwX6_init_1 : (.instanceMethod objectInit : Cond) ∈ wsX6_init := (List.mem_cons_of_mem _ (List.mem_append_left _ (List.mem_of_getElem? (i := 1) rfl)))
theorem hwX6_init_2 : (.code objectInit ⟨#[0xb1]⟩ 1 none : Cond) ∈ wsX6_init := (List.mem_cons_of_mem _ (List.mem_append_left _ (List.mem_of_getElem? (i := 2) rfl)))
theorem hwX6_init_3 : (.arrayClass .int : Cond) ∈ wsX6_init := (List.mem_cons_of_mem _ (List.mem_append_left _ (List.mem_of_getElem? (i := 3) rfl)))
theorem hwX6_init_4 : (.fieldLink RX6 11 "FortyBelts$Mill" "places" "[I" : Cond) ∈ wsX6_init := (List.mem_cons_of_mem _ (List.mem_append_left _ (List.mem_of_getElem? (i := 4) rfl)))
theorem hwX6_init_5 : (.fieldLink RX6 15 "FortyBelts$Mill" "bends" "[I" : Cond) ∈ wsX6_init := (List.mem_cons_of_mem _ (List.mem_append_left _ (List.mem_of_getElem? (i := 5) rfl)))
theorem hwX6_init_6 : (.fieldLink RX6 18 "FortyBelts$Mill" "drivenBy" "[I" : Cond) ∈ wsX6_init := (List.mem_cons_of_mem _ (List.mem_append_left _ (List.mem_of_getElem? (i := 6) rfl)))
theorem hwX6_init_7 : (.arrayClass .long : Cond) ∈ wsX6_init := (List.mem_cons_of_mem _ (List.mem_append_left _ (List.mem_of_getElem? (i := 7) rfl)))
theorem hwX6_init_8 : (.fieldLink RX6 21 "FortyBelts$Mill" "above" "[J" : Cond) ∈ wsX6_init := (List.mem_cons_of_mem _ (List.mem_append_left _ (List.mem_of_getElem? (i := 8) rfl)))
theorem hwX6_init_9 : (.fieldLink RX6 25 "FortyBelts$Mill" "below" "[J" : Cond) ∈ wsX6_init := (List.mem_cons_of_mem _ (List.mem_append_left _ (List.mem_of_getElem? (i := 9) rfl)))
theorem hwX6_init_10 : (.fieldLink RX6 28 "FortyBelts$Mill" "ways" "[I" : Cond) ∈ wsX6_init := (List.mem_cons_of_mem _ (List.mem_append_left _ (List.mem_of_getElem? (i := 10) rfl)))
theorem hwX6_init_11 : (.classLink RX6 31 RX5 : Cond) ∈ wsX6_init := (List.mem_cons_of_mem _ (List.mem_append_left _ (List.mem_of_getElem? (i := 11) rfl)))
theorem hwX6_init_12 : (.fieldLink RX6 33 "FortyBelts$Mill" "machines" "[LFortyBelts$Machine;" : Cond) ∈ wsX6_init := (List.mem_cons_of_mem _ (List.mem_append_left _ (List.mem_of_getElem? (i := 12) rfl)))
theorem hwX6_init_13 : (.fieldLink RX6 37 "FortyBelts$Mill" "sizes" "[I" : Cond) ∈ wsX6_init := (List.mem_cons_of_mem _ (List.mem_append_left _ (List.mem_of_getElem? (i := 13) rfl)))
theorem hwX6_init_14 : (.classLink RX6 40 RX0 : Cond) ∈ wsX6_init := (List.mem_cons_of_mem _ (List.mem_append_left _ (List.mem_of_getElem? (i := 14) rfl)))
theorem hwX6_init_15 : (.fieldLink RX6 42 "FortyBelts$Mill" "belts" "[LFortyBelts$Belt;" : Cond) ∈ wsX6_init := (List.mem_cons_of_mem _ (List.mem_append_left _ (List.mem_of_getElem? (i := 15) rfl)))
theorem hwX6_init_16 : (.fieldLink RX6 46 "FortyBelts$Mill" "order" "[I" : Cond) ∈ wsX6_init := (List.mem_cons_of_mem _ (List.mem_append_left _ (List.mem_of_getElem? (i := 16) rfl)))
theorem hwX6_init_17 : (.fieldLink RX6 49 "FortyBelts$Mill" "engineTurns" "I" : Cond) ∈ wsX6_init := (List.mem_cons_of_mem _ (List.mem_append_left _ (List.mem_of_getElem? (i := 17) rfl)))
theorem hwX6_init_18 : (.fieldLink RX6 53 "FortyBelts$Mill" "power" "I" : Cond) ∈ wsX6_init := (List.mem_cons_of_mem _ (List.mem_append_left _ (List.mem_of_getElem? (i := 18) rfl)))
theorem hcX6_init_X6 : ∀ w ∈ wsX60, w ∈ wsX6_init := fun _ h => (List.mem_cons_of_mem _ (List.mem_append_right _ h))
set_option maxHeartbeats 16000000 in
set_option maxRecDepth 100000 in
theorem J_X6_init {D : va_G} {KA : Nat → ClassId} {zs : ZS} {ad : Nat → Nat} {ids : List Nat} {sz : Nat} (l : Launch)  {st : Nat → Nat → Option Nat} (hs_this : ∀ k, st 1 k = none) (hm_this : 1 ∈ ids)  {σ : St} {post : St → List Nat → Prop} (h : wX6_init st ids  σ post) : Met l yX6_init wsX6_init rmX6_init (va_Pc [.ref (ad 1)] (xIn D KA zs layX st ad ids sz σ)) (va_Qv (S := St × (Nat → Nat) × List Nat) (fun u => post u.1 u.2.2) (xOutA D KA layX st ad ids sz) (xA ad ids sz)) 10 84 (xA ad ids sz) := by
  refine Met.ofW (cc := cX6_init) (maxL := 1) (ret := none) (by decide) rfl ?_
  intro p e s m args below meth c s₁ B hml hv
  obtain ⟨hav, hsz, hK, hZ, hP, hD⟩ := hv
  have hx := B.exec
  have hb := B.bytes
  have hr := B.returns
  have hts := atoms_spec (ws := wsX6_init) B.pre
  have hown : s.vm.findClass RX6 = some m.cls := findClass_of_methodNamed B.named
  have hlocks := B.notSynchronized
  have hin2 : meth.name = "<init>" := (name_of_methodNamed B.named B.method).1
  subst hsz
  have hA : ∀ q : Nat, s.heap.size ≤ q → xA ad ids s.heap.size q := fun q h => Or.inr h
  have hW : xW D KA layX st ad ids (xA ad ids s.heap.size) s.heap σ s.heap [] := ⟨hP, xA_D (D := D) hD, va_S.rf⟩
  have kr : ∀ (σ : St) (ad' : Nat → Nat) (ids' : List Nat) (H : Heap) (locs : List Loc) (ls : Array Slot) (pc : Nat), xW D KA layX st ad' ids' (xA ad ids s.heap.size) s.heap σ H locs → (∀ c ∈ ids, ad' c = ad c) → (∀ c ∈ ids, c ∈ ids') → post σ ids' → decode cX6_init pc = .ok (.return_, 1) → W p l e rmX6_init s m args below meth c H locs 10 84 (MQ below (va_Qv (S := St × (Nat → Nat) × List Nat) (fun u => post u.1 u.2.2) (xOutA D KA layX st ad ids s.heap.size) (xA ad ids s.heap.size)) args s 10 84 (xA ad ids s.heap.size)) (F0 m pc ls []) := fun σ ad' ids' H locs ls pc hW he hs h hd => x_vretA hx hb hr hlocks hW he hs h hd
  have hl := lv_entry ([.ref (ad 1)]) (n := 1) (Nat.le_of_ble_eq_true rfl)
  rw [show entryFrame m args 1 = entryFrame m ([.ref (ad 1)] : List Value).toArray 1 from by rw [hav]]
  rw [lg_entry_eq]
  generalize (lg_sl ([.ref (ad 1)]) ++ List.replicate (1 - (lg_sl ([.ref (ad 1)])).length) Slot.unset).toArray = ls at hl ⊢
  have hl : lv_has ls 1 [(0, .ref (ad 1))] := hl
  show W p l e rmX6_init s m args below meth c s.heap [] 0 0 _ _
  generalize MQ below (va_Qv (S := St × (Nat → Nat) × List Nat) (fun u => post u.1 u.2.2) (xOutA D KA layX st ad ids s.heap.size) (xA ad ids s.heap.size)) args s 10 84 (xA ad ids s.heap.size) = Q at kr ⊢
  unfold wX6_init at h
  refine lv_aload_n hx hb dX6_init_0 rfl (lv_at hl 0 rfl) ?_
  refine W.objInit hx hb hown (hts _ hwX6_init_0) (hts _ hwX6_init_1) (hts _ hwX6_init_2) rfl (by rw [hml]; exact hl.1) rfl dX6_init_1 (Nat.le_of_ble_eq_true rfl) (Nat.le_of_ble_eq_true rfl) ?_
  refine W.eq (g2 := F0 m 4 ls []) rfl ?_
  refine lv_aload_n hx hb dX6_init_4 rfl (lv_at hl 0 rfl) ?_
  refine lv_bipush (v := 8) hx hb dX6_init_5 (by decide) ?_
  obtain ⟨⟨hq1001a, hq1001d, hq1001r⟩, h⟩ := h
  refine x_newi hx hb hts hwX6_init_3 hK hW hA 3 8 hq1001d hq1001a hq1001r (by decide) rfl (Nat.le_of_ble_eq_true rfl) (Nat.le_of_ble_eq_true rfl) (Nat.le_of_ble_eq_true rfl) dX6_init_7 (fun ad1003 H hAd1004 hW => ?_)
  obtain ⟨σ1002, hσ1002⟩ : ∃ τ, τ = nC σ 3 := ⟨_, rfl⟩
  rw [← hσ1002] at hW
  obtain ⟨ids1005, hids1005⟩ : ∃ x, x = ids ++ [3] := ⟨_, rfl⟩
  rw [← hids1005] at hW
  have h := h σ1002 hσ1002 ids1005 hids1005
  have e1006 : ad 1 = ad1003 1 := (hAd1004 _ (x_ne hm_this hq1001d)).symm
  rw [e1006] at hl
  rw [e1006]
  refine xfX6_4 hx hb hts hown hK hW 1 hcX6_init_X6 (x_mL hids1005 hm_this) lX_1 (hts _ hwX6_init_4) hin2 rfl (hs_this 4) dX6_init_9 (fun σ1007 H locs hσ1007 hW => ?_)
  have h := h σ1007 hσ1007
  refine lv_aload_n hx hb dX6_init_12 rfl (lv_at hl 0 rfl) ?_
  refine lv_bipush (v := 8) hx hb dX6_init_13 (by decide) ?_
  obtain ⟨⟨hq1008a, hq1008d, hq1008r⟩, h⟩ := h
  refine x_newi hx hb hts hwX6_init_3 hK hW hA 4 8 hq1008d hq1008a hq1008r (by decide) rfl (Nat.le_of_ble_eq_true rfl) (Nat.le_of_ble_eq_true rfl) (Nat.le_of_ble_eq_true rfl) dX6_init_15 (fun ad1010 H hAd1011 hW => ?_)
  obtain ⟨σ1009, hσ1009⟩ : ∃ τ, τ = nC σ1007 4 := ⟨_, rfl⟩
  rw [← hσ1009] at hW
  obtain ⟨ids1012, hids1012⟩ : ∃ x, x = ids1005 ++ [4] := ⟨_, rfl⟩
  rw [← hids1012] at hW
  have h := h σ1009 hσ1009 ids1012 hids1012
  have e1013 : ad1003 1 = ad1010 1 := (hAd1011 _ (x_ne (x_mL hids1005 hm_this) hq1008d)).symm
  rw [e1013] at hl
  rw [e1013]
  refine xfX6_5 hx hb hts hown hK hW 1 hcX6_init_X6 (x_mL hids1012 (x_mL hids1005 hm_this)) lX_1 (hts _ hwX6_init_5) hin2 rfl (hs_this 5) dX6_init_17 (fun σ1014 H locs hσ1014 hW => ?_)
  have h := h σ1014 hσ1014
  refine lv_aload_n hx hb dX6_init_20 rfl (lv_at hl 0 rfl) ?_
  refine lv_bipush (v := 8) hx hb dX6_init_21 (by decide) ?_
  obtain ⟨⟨hq1015a, hq1015d, hq1015r⟩, h⟩ := h
  refine x_newi hx hb hts hwX6_init_3 hK hW hA 5 8 hq1015d hq1015a hq1015r (by decide) rfl (Nat.le_of_ble_eq_true rfl) (Nat.le_of_ble_eq_true rfl) (Nat.le_of_ble_eq_true rfl) dX6_init_23 (fun ad1017 H hAd1018 hW => ?_)
  obtain ⟨σ1016, hσ1016⟩ : ∃ τ, τ = nC σ1014 5 := ⟨_, rfl⟩
  rw [← hσ1016] at hW
  obtain ⟨ids1019, hids1019⟩ : ∃ x, x = ids1012 ++ [5] := ⟨_, rfl⟩
  rw [← hids1019] at hW
  have h := h σ1016 hσ1016 ids1019 hids1019
  have e1020 : ad1010 1 = ad1017 1 := (hAd1018 _ (x_ne (x_mL hids1012 (x_mL hids1005 hm_this)) hq1015d)).symm
  rw [e1020] at hl
  rw [e1020]
  refine xfX6_6 hx hb hts hown hK hW 1 hcX6_init_X6 (x_mL hids1019 (x_mL hids1012 (x_mL hids1005 hm_this))) lX_1 (hts _ hwX6_init_6) hin2 rfl (hs_this 6) dX6_init_25 (fun σ1021 H locs hσ1021 hW => ?_)
  have h := h σ1021 hσ1021
  refine lv_aload_n hx hb dX6_init_28 rfl (lv_at hl 0 rfl) ?_
  refine lv_bipush (v := 8) hx hb dX6_init_29 (by decide) ?_
  obtain ⟨⟨hq1022a, hq1022d, hq1022r⟩, h⟩ := h
  refine x_newj hx hb hts hwX6_init_7 hK hW hA 6 8 hq1022d hq1022a hq1022r (by decide) rfl (Nat.le_of_ble_eq_true rfl) (Nat.le_of_ble_eq_true rfl) (Nat.le_of_ble_eq_true rfl) dX6_init_31 (fun ad1024 H hAd1025 hW => ?_)
  obtain ⟨σ1023, hσ1023⟩ : ∃ τ, τ = nC σ1021 6 := ⟨_, rfl⟩
  rw [← hσ1023] at hW
  obtain ⟨ids1026, hids1026⟩ : ∃ x, x = ids1019 ++ [6] := ⟨_, rfl⟩
  rw [← hids1026] at hW
  have h := h σ1023 hσ1023 ids1026 hids1026
  have e1027 : ad1017 1 = ad1024 1 := (hAd1025 _ (x_ne (x_mL hids1019 (x_mL hids1012 (x_mL hids1005 hm_this))) hq1022d)).symm
  rw [e1027] at hl
  rw [e1027]
  refine xfX6_7 hx hb hts hown hK hW 1 hcX6_init_X6 (x_mL hids1026 (x_mL hids1019 (x_mL hids1012 (x_mL hids1005 hm_this)))) lX_1 (hts _ hwX6_init_8) hin2 rfl (hs_this 7) dX6_init_33 (fun σ1028 H locs hσ1028 hW => ?_)
  have h := h σ1028 hσ1028
  refine lv_aload_n hx hb dX6_init_36 rfl (lv_at hl 0 rfl) ?_
  refine lv_bipush (v := 8) hx hb dX6_init_37 (by decide) ?_
  obtain ⟨⟨hq1029a, hq1029d, hq1029r⟩, h⟩ := h
  refine x_newj hx hb hts hwX6_init_7 hK hW hA 7 8 hq1029d hq1029a hq1029r (by decide) rfl (Nat.le_of_ble_eq_true rfl) (Nat.le_of_ble_eq_true rfl) (Nat.le_of_ble_eq_true rfl) dX6_init_39 (fun ad1031 H hAd1032 hW => ?_)
  obtain ⟨σ1030, hσ1030⟩ : ∃ τ, τ = nC σ1028 7 := ⟨_, rfl⟩
  rw [← hσ1030] at hW
  obtain ⟨ids1033, hids1033⟩ : ∃ x, x = ids1026 ++ [7] := ⟨_, rfl⟩
  rw [← hids1033] at hW
  have h := h σ1030 hσ1030 ids1033 hids1033
  have e1034 : ad1024 1 = ad1031 1 := (hAd1032 _ (x_ne (x_mL hids1026 (x_mL hids1019 (x_mL hids1012 (x_mL hids1005 hm_this)))) hq1029d)).symm
  rw [e1034] at hl
  rw [e1034]
  refine xfX6_8 hx hb hts hown hK hW 1 hcX6_init_X6 (x_mL hids1033 (x_mL hids1026 (x_mL hids1019 (x_mL hids1012 (x_mL hids1005 hm_this))))) lX_1 (hts _ hwX6_init_9) hin2 rfl (hs_this 8) dX6_init_41 (fun σ1035 H locs hσ1035 hW => ?_)
  have h := h σ1035 hσ1035
  refine lv_aload_n hx hb dX6_init_44 rfl (lv_at hl 0 rfl) ?_
  refine lv_bipush (v := 8) hx hb dX6_init_45 (by decide) ?_
  obtain ⟨⟨hq1036a, hq1036d, hq1036r⟩, h⟩ := h
  refine x_newi hx hb hts hwX6_init_3 hK hW hA 8 8 hq1036d hq1036a hq1036r (by decide) rfl (Nat.le_of_ble_eq_true rfl) (Nat.le_of_ble_eq_true rfl) (Nat.le_of_ble_eq_true rfl) dX6_init_47 (fun ad1038 H hAd1039 hW => ?_)
  obtain ⟨σ1037, hσ1037⟩ : ∃ τ, τ = nC σ1035 8 := ⟨_, rfl⟩
  rw [← hσ1037] at hW
  obtain ⟨ids1040, hids1040⟩ : ∃ x, x = ids1033 ++ [8] := ⟨_, rfl⟩
  rw [← hids1040] at hW
  have h := h σ1037 hσ1037 ids1040 hids1040
  have e1041 : ad1031 1 = ad1038 1 := (hAd1039 _ (x_ne (x_mL hids1033 (x_mL hids1026 (x_mL hids1019 (x_mL hids1012 (x_mL hids1005 hm_this))))) hq1036d)).symm
  rw [e1041] at hl
  rw [e1041]
  refine xfX6_9 hx hb hts hown hK hW 1 hcX6_init_X6 (x_mL hids1040 (x_mL hids1033 (x_mL hids1026 (x_mL hids1019 (x_mL hids1012 (x_mL hids1005 hm_this)))))) lX_1 (hts _ hwX6_init_10) hin2 rfl (hs_this 9) dX6_init_49 (fun σ1042 H locs hσ1042 hW => ?_)
  have h := h σ1042 hσ1042
  refine lv_aload_n hx hb dX6_init_52 rfl (lv_at hl 0 rfl) ?_
  refine lv_bipush (v := 10) hx hb dX6_init_53 (by decide) ?_
  obtain ⟨⟨hq1043a, hq1043s, hq1043d, hq1043r⟩, h⟩ := h
  refine x_newr hx hb hts hown hwX6_init_11 (hK.2.2.2 _ (by simp)) hK hW hA 9 1 10 rfl hq1043d hq1043a hq1043s hq1043r (by decide) rfl (Nat.le_of_ble_eq_true rfl) (Nat.le_of_ble_eq_true rfl) (Nat.le_of_ble_eq_true rfl) dX6_init_55 (fun ad1045 H hAd1046 hW => ?_)
  obtain ⟨σ1044, hσ1044⟩ : ∃ τ, τ = nC σ1042 9 := ⟨_, rfl⟩
  rw [← hσ1044] at hW
  obtain ⟨ids1047, hids1047⟩ : ∃ x, x = ids1040 ++ [9] := ⟨_, rfl⟩
  rw [← hids1047] at hW
  have h := h σ1044 hσ1044 ids1047 hids1047
  have e1048 : ad1038 1 = ad1045 1 := (hAd1046 _ (x_ne (x_mL hids1040 (x_mL hids1033 (x_mL hids1026 (x_mL hids1019 (x_mL hids1012 (x_mL hids1005 hm_this)))))) hq1043d)).symm
  rw [e1048] at hl
  rw [e1048]
  refine xfX6_10 hx hb hts hown hK hW 1 hcX6_init_X6 (x_mL hids1047 (x_mL hids1040 (x_mL hids1033 (x_mL hids1026 (x_mL hids1019 (x_mL hids1012 (x_mL hids1005 hm_this))))))) lX_1 (hts _ hwX6_init_12) hin2 rfl (hs_this 10) dX6_init_58 (fun σ1049 H locs hσ1049 hW => ?_)
  have h := h σ1049 hσ1049
  refine lv_aload_n hx hb dX6_init_61 rfl (lv_at hl 0 rfl) ?_
  refine lv_bipush (v := 12) hx hb dX6_init_62 (by decide) ?_
  obtain ⟨⟨hq1050a, hq1050d, hq1050r⟩, h⟩ := h
  refine x_newi hx hb hts hwX6_init_3 hK hW hA 10 12 hq1050d hq1050a hq1050r (by decide) rfl (Nat.le_of_ble_eq_true rfl) (Nat.le_of_ble_eq_true rfl) (Nat.le_of_ble_eq_true rfl) dX6_init_64 (fun ad1052 H hAd1053 hW => ?_)
  obtain ⟨σ1051, hσ1051⟩ : ∃ τ, τ = nC σ1049 10 := ⟨_, rfl⟩
  rw [← hσ1051] at hW
  obtain ⟨ids1054, hids1054⟩ : ∃ x, x = ids1047 ++ [10] := ⟨_, rfl⟩
  rw [← hids1054] at hW
  have h := h σ1051 hσ1051 ids1054 hids1054
  have e1055 : ad1045 1 = ad1052 1 := (hAd1053 _ (x_ne (x_mL hids1047 (x_mL hids1040 (x_mL hids1033 (x_mL hids1026 (x_mL hids1019 (x_mL hids1012 (x_mL hids1005 hm_this))))))) hq1050d)).symm
  rw [e1055] at hl
  rw [e1055]
  refine xfX6_11 hx hb hts hown hK hW 1 hcX6_init_X6 (x_mL hids1054 (x_mL hids1047 (x_mL hids1040 (x_mL hids1033 (x_mL hids1026 (x_mL hids1019 (x_mL hids1012 (x_mL hids1005 hm_this)))))))) lX_1 (hts _ hwX6_init_13) hin2 rfl (hs_this 11) dX6_init_66 (fun σ1056 H locs hσ1056 hW => ?_)
  have h := h σ1056 hσ1056
  refine lv_aload_n hx hb dX6_init_69 rfl (lv_at hl 0 rfl) ?_
  refine lv_bipush (v := 7) hx hb dX6_init_70 (by decide) ?_
  obtain ⟨⟨hq1057a, hq1057s, hq1057d, hq1057r⟩, h⟩ := h
  refine x_newr hx hb hts hown hwX6_init_14 (hK.2.2.2 _ (by simp)) hK hW hA 11 0 7 rfl hq1057d hq1057a hq1057s hq1057r (by decide) rfl (Nat.le_of_ble_eq_true rfl) (Nat.le_of_ble_eq_true rfl) (Nat.le_of_ble_eq_true rfl) dX6_init_72 (fun ad1059 H hAd1060 hW => ?_)
  obtain ⟨σ1058, hσ1058⟩ : ∃ τ, τ = nC σ1056 11 := ⟨_, rfl⟩
  rw [← hσ1058] at hW
  obtain ⟨ids1061, hids1061⟩ : ∃ x, x = ids1054 ++ [11] := ⟨_, rfl⟩
  rw [← hids1061] at hW
  have h := h σ1058 hσ1058 ids1061 hids1061
  have e1062 : ad1052 1 = ad1059 1 := (hAd1060 _ (x_ne (x_mL hids1054 (x_mL hids1047 (x_mL hids1040 (x_mL hids1033 (x_mL hids1026 (x_mL hids1019 (x_mL hids1012 (x_mL hids1005 hm_this)))))))) hq1057d)).symm
  rw [e1062] at hl
  rw [e1062]
  refine xfX6_12 hx hb hts hown hK hW 1 hcX6_init_X6 (x_mL hids1061 (x_mL hids1054 (x_mL hids1047 (x_mL hids1040 (x_mL hids1033 (x_mL hids1026 (x_mL hids1019 (x_mL hids1012 (x_mL hids1005 hm_this))))))))) lX_1 (hts _ hwX6_init_15) hin2 rfl (hs_this 12) dX6_init_75 (fun σ1063 H locs hσ1063 hW => ?_)
  have h := h σ1063 hσ1063
  refine lv_aload_n hx hb dX6_init_78 rfl (lv_at hl 0 rfl) ?_
  refine lv_bipush (v := 7) hx hb dX6_init_79 (by decide) ?_
  obtain ⟨⟨hq1064a, hq1064d, hq1064r⟩, h⟩ := h
  refine x_newi hx hb hts hwX6_init_3 hK hW hA 12 7 hq1064d hq1064a hq1064r (by decide) rfl (Nat.le_of_ble_eq_true rfl) (Nat.le_of_ble_eq_true rfl) (Nat.le_of_ble_eq_true rfl) dX6_init_81 (fun ad1066 H hAd1067 hW => ?_)
  obtain ⟨σ1065, hσ1065⟩ : ∃ τ, τ = nC σ1063 12 := ⟨_, rfl⟩
  rw [← hσ1065] at hW
  obtain ⟨ids1068, hids1068⟩ : ∃ x, x = ids1061 ++ [12] := ⟨_, rfl⟩
  rw [← hids1068] at hW
  have h := h σ1065 hσ1065 ids1068 hids1068
  have e1069 : ad1059 1 = ad1066 1 := (hAd1067 _ (x_ne (x_mL hids1061 (x_mL hids1054 (x_mL hids1047 (x_mL hids1040 (x_mL hids1033 (x_mL hids1026 (x_mL hids1019 (x_mL hids1012 (x_mL hids1005 hm_this))))))))) hq1064d)).symm
  rw [e1069] at hl
  rw [e1069]
  refine xfX6_13 hx hb hts hown hK hW 1 hcX6_init_X6 (x_mL hids1068 (x_mL hids1061 (x_mL hids1054 (x_mL hids1047 (x_mL hids1040 (x_mL hids1033 (x_mL hids1026 (x_mL hids1019 (x_mL hids1012 (x_mL hids1005 hm_this)))))))))) lX_1 (hts _ hwX6_init_16) hin2 rfl (hs_this 13) dX6_init_83 (fun σ1070 H locs hσ1070 hW => ?_)
  have h := h σ1070 hσ1070
  refine lv_aload_n hx hb dX6_init_86 rfl (lv_at hl 0 rfl) ?_
  refine lv_bipush (v := 100) hx hb dX6_init_87 (by decide) ?_
  refine xpX6_14 hx hb hts hown hK hW 1 hcX6_init_X6 (x_mL hids1068 (x_mL hids1061 (x_mL hids1054 (x_mL hids1047 (x_mL hids1040 (x_mL hids1033 (x_mL hids1026 (x_mL hids1019 (x_mL hids1012 (x_mL hids1005 hm_this)))))))))) lX_1 (hts _ hwX6_init_17) dX6_init_89 (fun σ1071 H locs hσ1071 hW => ?_)
  have h := h σ1071 hσ1071
  refine lv_aload_n hx hb dX6_init_92 rfl (lv_at hl 0 rfl) ?_
  refine lv_sipush (v := 1000) hx hb dX6_init_93 (by decide) ?_
  refine xpX6_15 hx hb hts hown hK hW 1 hcX6_init_X6 (x_mL hids1068 (x_mL hids1061 (x_mL hids1054 (x_mL hids1047 (x_mL hids1040 (x_mL hids1033 (x_mL hids1026 (x_mL hids1019 (x_mL hids1012 (x_mL hids1005 hm_this)))))))))) lX_1 (hts _ hwX6_init_18) dX6_init_96 (fun σ1072 H locs hσ1072 hW => ?_)
  have h := h σ1072 hσ1072
  refine W.widen (k := 10) (n := 84) (Nat.le_of_ble_eq_true rfl) (Nat.le_of_ble_eq_true rfl) ?_
  exact kr _ _ _ _ _ _ _ hW (fun c hc => (hAd1067 c (x_ne (x_mL hids1061 (x_mL hids1054 (x_mL hids1047 (x_mL hids1040 (x_mL hids1033 (x_mL hids1026 (x_mL hids1019 (x_mL hids1012 (x_mL hids1005 hc))))))))) hq1064d)).trans ((fun c hc => (hAd1060 c (x_ne (x_mL hids1054 (x_mL hids1047 (x_mL hids1040 (x_mL hids1033 (x_mL hids1026 (x_mL hids1019 (x_mL hids1012 (x_mL hids1005 hc)))))))) hq1057d)).trans ((fun c hc => (hAd1053 c (x_ne (x_mL hids1047 (x_mL hids1040 (x_mL hids1033 (x_mL hids1026 (x_mL hids1019 (x_mL hids1012 (x_mL hids1005 hc))))))) hq1050d)).trans ((fun c hc => (hAd1046 c (x_ne (x_mL hids1040 (x_mL hids1033 (x_mL hids1026 (x_mL hids1019 (x_mL hids1012 (x_mL hids1005 hc)))))) hq1043d)).trans ((fun c hc => (hAd1039 c (x_ne (x_mL hids1033 (x_mL hids1026 (x_mL hids1019 (x_mL hids1012 (x_mL hids1005 hc))))) hq1036d)).trans ((fun c hc => (hAd1032 c (x_ne (x_mL hids1026 (x_mL hids1019 (x_mL hids1012 (x_mL hids1005 hc)))) hq1029d)).trans ((fun c hc => (hAd1025 c (x_ne (x_mL hids1019 (x_mL hids1012 (x_mL hids1005 hc))) hq1022d)).trans ((fun c hc => (hAd1018 c (x_ne (x_mL hids1012 (x_mL hids1005 hc)) hq1015d)).trans ((fun c hc => (hAd1011 c (x_ne (x_mL hids1005 hc) hq1008d)).trans ((fun c hc => (hAd1004 c (x_ne hc hq1001d)).trans ((fun _ _ => rfl) c hc)) c hc)) c hc)) c hc)) c hc)) c hc)) c hc)) c hc)) c hc)) c hc)) (fun c hc => (x_mL hids1068 (x_mL hids1061 (x_mL hids1054 (x_mL hids1047 (x_mL hids1040 (x_mL hids1033 (x_mL hids1026 (x_mL hids1019 (x_mL hids1012 (x_mL hids1005 hc))))))))))) h dX6_init_99
theorem hwX7_init_0 : (.methodLink RX7 3 objectInit : Cond) ∈ wsX7_init := (List.mem_cons_of_mem _ (List.mem_append_left _ (List.mem_of_getElem? (i := 0) rfl)))
theorem hwX7_init_1 : (.instanceMethod objectInit : Cond) ∈ wsX7_init := (List.mem_cons_of_mem _ (List.mem_append_left _ (List.mem_of_getElem? (i := 1) rfl)))
theorem hwX7_init_2 : (.code objectInit ⟨#[0xb1]⟩ 1 none : Cond) ∈ wsX7_init := (List.mem_cons_of_mem _ (List.mem_append_left _ (List.mem_of_getElem? (i := 2) rfl)))
theorem hwX7_init_3 : (.arrayClass .int : Cond) ∈ wsX7_init := (List.mem_cons_of_mem _ (List.mem_append_left _ (List.mem_of_getElem? (i := 3) rfl)))
theorem hwX7_init_4 : (.fieldLink RX7 11 "FortyBelts$Reader" "tape" "[I" : Cond) ∈ wsX7_init := (List.mem_cons_of_mem _ (List.mem_append_left _ (List.mem_of_getElem? (i := 4) rfl)))
theorem hcX7_init_X7 : ∀ w ∈ wsX70, w ∈ wsX7_init := fun _ h => (List.mem_cons_of_mem _ (List.mem_append_right _ h))
set_option maxHeartbeats 16000000 in
set_option maxRecDepth 100000 in
theorem J_X7_init {D : va_G} {KA : Nat → ClassId} {zs : ZS} {ad : Nat → Nat} {ids : List Nat} {sz : Nat} (l : Launch)  {st : Nat → Nat → Option Nat} (hs_this : ∀ k, st 2 k = none) (hm_this : 2 ∈ ids)  {σ : St} {post : St → List Nat → Prop} (h : wX7_init st ids  σ post) : Met l yX7_init wsX7_init rmX7_init (va_Pc [.ref (ad 2)] (xIn D KA zs layX st ad ids sz σ)) (va_Qv (S := St × (Nat → Nat) × List Nat) (fun u => post u.1 u.2.2) (xOutA D KA layX st ad ids sz) (xA ad ids sz)) 1 160 (xA ad ids sz) := by
  refine Met.ofW (cc := cX7_init) (maxL := 1) (ret := none) (by decide) rfl ?_
  intro p e s m args below meth c s₁ B hml hv
  obtain ⟨hav, hsz, hK, hZ, hP, hD⟩ := hv
  have hx := B.exec
  have hb := B.bytes
  have hr := B.returns
  have hts := atoms_spec (ws := wsX7_init) B.pre
  have hown : s.vm.findClass RX7 = some m.cls := findClass_of_methodNamed B.named
  have hlocks := B.notSynchronized
  have hin2 : meth.name = "<init>" := (name_of_methodNamed B.named B.method).1
  subst hsz
  have hA : ∀ q : Nat, s.heap.size ≤ q → xA ad ids s.heap.size q := fun q h => Or.inr h
  have hW : xW D KA layX st ad ids (xA ad ids s.heap.size) s.heap σ s.heap [] := ⟨hP, xA_D (D := D) hD, va_S.rf⟩
  have kr : ∀ (σ : St) (ad' : Nat → Nat) (ids' : List Nat) (H : Heap) (locs : List Loc) (ls : Array Slot) (pc : Nat), xW D KA layX st ad' ids' (xA ad ids s.heap.size) s.heap σ H locs → (∀ c ∈ ids, ad' c = ad c) → (∀ c ∈ ids, c ∈ ids') → post σ ids' → decode cX7_init pc = .ok (.return_, 1) → W p l e rmX7_init s m args below meth c H locs 1 160 (MQ below (va_Qv (S := St × (Nat → Nat) × List Nat) (fun u => post u.1 u.2.2) (xOutA D KA layX st ad ids s.heap.size) (xA ad ids s.heap.size)) args s 1 160 (xA ad ids s.heap.size)) (F0 m pc ls []) := fun σ ad' ids' H locs ls pc hW he hs h hd => x_vretA hx hb hr hlocks hW he hs h hd
  have hl := lv_entry ([.ref (ad 2)]) (n := 1) (Nat.le_of_ble_eq_true rfl)
  rw [show entryFrame m args 1 = entryFrame m ([.ref (ad 2)] : List Value).toArray 1 from by rw [hav]]
  rw [lg_entry_eq]
  generalize (lg_sl ([.ref (ad 2)]) ++ List.replicate (1 - (lg_sl ([.ref (ad 2)])).length) Slot.unset).toArray = ls at hl ⊢
  have hl : lv_has ls 1 [(0, .ref (ad 2))] := hl
  show W p l e rmX7_init s m args below meth c s.heap [] 0 0 _ _
  generalize MQ below (va_Qv (S := St × (Nat → Nat) × List Nat) (fun u => post u.1 u.2.2) (xOutA D KA layX st ad ids s.heap.size) (xA ad ids s.heap.size)) args s 1 160 (xA ad ids s.heap.size) = Q at kr ⊢
  unfold wX7_init at h
  refine lv_aload_n hx hb dX7_init_0 rfl (lv_at hl 0 rfl) ?_
  refine W.objInit hx hb hown (hts _ hwX7_init_0) (hts _ hwX7_init_1) (hts _ hwX7_init_2) rfl (by rw [hml]; exact hl.1) rfl dX7_init_1 (Nat.le_of_ble_eq_true rfl) (Nat.le_of_ble_eq_true rfl) ?_
  refine W.eq (g2 := F0 m 4 ls []) rfl ?_
  refine lv_aload_n hx hb dX7_init_4 rfl (lv_at hl 0 rfl) ?_
  refine lv_sipush (v := 160) hx hb dX7_init_5 (by decide) ?_
  obtain ⟨⟨hq1001a, hq1001d, hq1001r⟩, h⟩ := h
  refine x_newi hx hb hts hwX7_init_3 hK hW hA 13 160 hq1001d hq1001a hq1001r (by decide) rfl (Nat.le_of_ble_eq_true rfl) (Nat.le_of_ble_eq_true rfl) (Nat.le_of_ble_eq_true rfl) dX7_init_8 (fun ad1003 H hAd1004 hW => ?_)
  obtain ⟨σ1002, hσ1002⟩ : ∃ τ, τ = nC σ 13 := ⟨_, rfl⟩
  rw [← hσ1002] at hW
  obtain ⟨ids1005, hids1005⟩ : ∃ x, x = ids ++ [13] := ⟨_, rfl⟩
  rw [← hids1005] at hW
  have h := h σ1002 hσ1002 ids1005 hids1005
  have e1006 : ad 2 = ad1003 2 := (hAd1004 _ (x_ne hm_this hq1001d)).symm
  rw [e1006] at hl
  rw [e1006]
  refine xfX7_0 hx hb hts hown hK hW 2 hcX7_init_X7 (x_mL hids1005 hm_this) lX_2 (hts _ hwX7_init_4) hin2 rfl (hs_this 0) dX7_init_10 (fun σ1007 H locs hσ1007 hW => ?_)
  have h := h σ1007 hσ1007
  refine W.widen (k := 1) (n := 160) (Nat.le_of_ble_eq_true rfl) (Nat.le_of_ble_eq_true rfl) ?_
  exact kr _ _ _ _ _ _ _ hW (fun c hc => (hAd1004 c (x_ne hc hq1001d)).trans ((fun _ _ => rfl) c hc)) (fun c hc => (x_mL hids1005 hc)) h dX7_init_13
set_option maxHeartbeats 4000000 in
set_option maxRecDepth 100000 in
theorem J_X7_isDigit {D : va_G} {KA : Nat → ClassId} {zs : ZS} {ad : Nat → Nat} {ids : List Nat} {sz : Nat} (l : Launch) (hI : ∀ c, n7 c → c ∈ ids) {st : Nat → Nat → Option Nat} (hst : ∀ c, n7 c → st c = stX c) {a0 : Int32}  {σ : St} {post : Int32 → St → Prop} (h : wX7_isDigit ids a0 σ post) : Met l yX7_isDigit wsX7_isDigit rmX7_isDigit (va_Pc [.int a0] (xIn D KA zs layX st ad ids sz σ)) (va_Qi post (xOut D KA layX st ad ids) (xA ad ids sz)) 0 0 (xA ad ids sz) := by
  refine Met.ofW (cc := cX7_isDigit) (maxL := 1) (ret := (some .boolean)) (by decide) rfl ?_
  intro p e s m args below meth c s₁ B hml hv
  obtain ⟨hav, hsz, hK, hZ, hP, hD⟩ := hv
  have hx := B.exec
  have hb := B.bytes
  have hr := B.returns
  have hts := atoms_spec (ws := wsX7_isDigit) B.pre
  have hown : s.vm.findClass RX7 = some m.cls := findClass_of_methodNamed B.named
  have hlocks := B.notSynchronized
  subst hsz
  have hA : ∀ q : Nat, s.heap.size ≤ q → xA ad ids s.heap.size q := fun q h => Or.inr h
  have hW : xW D KA layX st ad ids (xA ad ids s.heap.size) s.heap σ s.heap [] := ⟨hP, xA_D (D := D) hD, va_S.rf⟩
  have kr : ∀ (v : Int32) (σ : St) (H : Heap) (locs : List Loc) (ls : Array Slot) (pc : Nat), xW D KA layX st ad ids (xA ad ids s.heap.size) s.heap σ H locs → isB v → post v σ → decode cX7_isDigit pc = .ok (.ireturn, 1) → W p l e rmX7_isDigit s m args below meth c H locs 0 0 (MQ below (va_Qi post (xOut D KA layX st ad ids) (xA ad ids s.heap.size)) args s 0 0 (xA ad ids s.heap.size)) (F0 m pc ls [.int v]) := fun v σ H locs ls pc hW hz h hd => x_zret hx hb hr hlocks hW hz h hd
  have hl := lv_entry ([.int a0]) (n := 1) (Nat.le_of_ble_eq_true rfl)
  rw [show entryFrame m args 1 = entryFrame m ([.int a0] : List Value).toArray 1 from by rw [hav]]
  rw [lg_entry_eq]
  generalize (lg_sl ([.int a0]) ++ List.replicate (1 - (lg_sl ([.int a0])).length) Slot.unset).toArray = ls at hl ⊢
  have hl : lv_has ls 1 [(0, .int a0)] := hl
  show W p l e rmX7_isDigit s m args below meth c s.heap [] 0 0 _ _
  generalize MQ below (va_Qi post (xOut D KA layX st ad ids) (xA ad ids s.heap.size)) args s 0 0 (xA ad ids s.heap.size) = Q at kr ⊢
  have blk17 : ∀ (s0 : Int32) (σ : St) (H : Heap) (locs : List Loc) (ls : Array Slot), xW D KA layX st ad ids (xA ad ids s.heap.size) s.heap σ H locs → lv_has ls 1 [] → wX7_isDigit_17 ids post s0 σ → W p l e rmX7_isDigit s m args below meth c H locs 0 0 Q (F0 m 17 ls [.int s0]) := by
    intro   s0 σ H locs ls hW hl h
    unfold wX7_isDigit_17 at h
    obtain ⟨hz1, h⟩ := h
    exact kr _ _ _ _ _ _ hW hz1 h dX7_isDigit_17
  have blk16 : ∀ (σ : St) (H : Heap) (locs : List Loc) (ls : Array Slot), xW D KA layX st ad ids (xA ad ids s.heap.size) s.heap σ H locs → lv_has ls 1 [] → wX7_isDigit_16 ids post  σ → W p l e rmX7_isDigit s m args below meth c H locs 0 0 Q (F0 m 16 ls []) := by
    intro    σ H locs ls hW hl h
    unfold wX7_isDigit_16 at h
    refine lv_iconst (v := 0) hx hb dX7_isDigit_16 (by decide) ?_
    exact blk17   (0 : Int32) _ _ _ _ hW (lv_sub hl [] rfl) h
  have main : ∀ (H : Heap) (locs : List Loc) (ls : Array Slot), xW D KA layX st ad ids (xA ad ids s.heap.size) s.heap σ H locs → lv_has ls 1 [(0, .int a0)] → W p l e rmX7_isDigit s m args below meth c H locs 0 0 Q (F0 m 0 ls []) := by
    intro H locs ls hW hl
    unfold wX7_isDigit at h
    refine lv_bipush (v := 48) hx hb dX7_isDigit_0 (by decide) ?_
    refine lv_iload_n hx hb dX7_isDigit_2 rfl (lv_at hl 0 rfl) ?_
    refine lv_icmp_gt (tgt := 16) hx hb dX7_isDigit_3 (by decide) (fun c1001 => ?_) (fun c1001 => ?_)
    · have h := h.1 c1001
      exact blk16    _ _ _ _ hW (lv_sub hl [] rfl) h
    · have h := h.2 c1001
      refine lv_iload_n hx hb dX7_isDigit_6 rfl (lv_at hl 0 rfl) ?_
      refine lv_bipush (v := 57) hx hb dX7_isDigit_7 (by decide) ?_
      refine lv_icmp_gt (tgt := 16) hx hb dX7_isDigit_9 (by decide) (fun c1002 => ?_) (fun c1002 => ?_)
      · have h := h.1 c1002
        exact blk16    _ _ _ _ hW (lv_sub hl [] rfl) h
      · have h := h.2 c1002
        refine lv_iconst (v := 1) hx hb dX7_isDigit_12 (by decide) ?_
        refine lv_goto (tgt := 17) hx hb dX7_isDigit_13 (by decide) ?_
        exact blk17   (1 : Int32) _ _ _ _ hW (lv_sub hl [] rfl) h
  exact main _ _ _ hW hl
set_option maxHeartbeats 4000000 in
set_option maxRecDepth 100000 in
theorem J_X7_isLetter {D : va_G} {KA : Nat → ClassId} {zs : ZS} {ad : Nat → Nat} {ids : List Nat} {sz : Nat} (l : Launch) (hI : ∀ c, n7 c → c ∈ ids) {st : Nat → Nat → Option Nat} (hst : ∀ c, n7 c → st c = stX c) {a0 : Int32}  {σ : St} {post : Int32 → St → Prop} (h : wX7_isLetter ids a0 σ post) : Met l yX7_isLetter wsX7_isLetter rmX7_isLetter (va_Pc [.int a0] (xIn D KA zs layX st ad ids sz σ)) (va_Qi post (xOut D KA layX st ad ids) (xA ad ids sz)) 0 0 (xA ad ids sz) := by
  refine Met.ofW (cc := cX7_isLetter) (maxL := 1) (ret := (some .boolean)) (by decide) rfl ?_
  intro p e s m args below meth c s₁ B hml hv
  obtain ⟨hav, hsz, hK, hZ, hP, hD⟩ := hv
  have hx := B.exec
  have hb := B.bytes
  have hr := B.returns
  have hts := atoms_spec (ws := wsX7_isLetter) B.pre
  have hown : s.vm.findClass RX7 = some m.cls := findClass_of_methodNamed B.named
  have hlocks := B.notSynchronized
  subst hsz
  have hA : ∀ q : Nat, s.heap.size ≤ q → xA ad ids s.heap.size q := fun q h => Or.inr h
  have hW : xW D KA layX st ad ids (xA ad ids s.heap.size) s.heap σ s.heap [] := ⟨hP, xA_D (D := D) hD, va_S.rf⟩
  have kr : ∀ (v : Int32) (σ : St) (H : Heap) (locs : List Loc) (ls : Array Slot) (pc : Nat), xW D KA layX st ad ids (xA ad ids s.heap.size) s.heap σ H locs → isB v → post v σ → decode cX7_isLetter pc = .ok (.ireturn, 1) → W p l e rmX7_isLetter s m args below meth c H locs 0 0 (MQ below (va_Qi post (xOut D KA layX st ad ids) (xA ad ids s.heap.size)) args s 0 0 (xA ad ids s.heap.size)) (F0 m pc ls [.int v]) := fun v σ H locs ls pc hW hz h hd => x_zret hx hb hr hlocks hW hz h hd
  have hl := lv_entry ([.int a0]) (n := 1) (Nat.le_of_ble_eq_true rfl)
  rw [show entryFrame m args 1 = entryFrame m ([.int a0] : List Value).toArray 1 from by rw [hav]]
  rw [lg_entry_eq]
  generalize (lg_sl ([.int a0]) ++ List.replicate (1 - (lg_sl ([.int a0])).length) Slot.unset).toArray = ls at hl ⊢
  have hl : lv_has ls 1 [(0, .int a0)] := hl
  show W p l e rmX7_isLetter s m args below meth c s.heap [] 0 0 _ _
  generalize MQ below (va_Qi post (xOut D KA layX st ad ids) (xA ad ids s.heap.size)) args s 0 0 (xA ad ids s.heap.size) = Q at kr ⊢
  have blk17 : ∀ (s0 : Int32) (σ : St) (H : Heap) (locs : List Loc) (ls : Array Slot), xW D KA layX st ad ids (xA ad ids s.heap.size) s.heap σ H locs → lv_has ls 1 [] → wX7_isLetter_17 ids post s0 σ → W p l e rmX7_isLetter s m args below meth c H locs 0 0 Q (F0 m 17 ls [.int s0]) := by
    intro   s0 σ H locs ls hW hl h
    unfold wX7_isLetter_17 at h
    obtain ⟨hz1, h⟩ := h
    exact kr _ _ _ _ _ _ hW hz1 h dX7_isLetter_17
  have blk16 : ∀ (σ : St) (H : Heap) (locs : List Loc) (ls : Array Slot), xW D KA layX st ad ids (xA ad ids s.heap.size) s.heap σ H locs → lv_has ls 1 [] → wX7_isLetter_16 ids post  σ → W p l e rmX7_isLetter s m args below meth c H locs 0 0 Q (F0 m 16 ls []) := by
    intro    σ H locs ls hW hl h
    unfold wX7_isLetter_16 at h
    refine lv_iconst (v := 0) hx hb dX7_isLetter_16 (by decide) ?_
    exact blk17   (0 : Int32) _ _ _ _ hW (lv_sub hl [] rfl) h
  have main : ∀ (H : Heap) (locs : List Loc) (ls : Array Slot), xW D KA layX st ad ids (xA ad ids s.heap.size) s.heap σ H locs → lv_has ls 1 [(0, .int a0)] → W p l e rmX7_isLetter s m args below meth c H locs 0 0 Q (F0 m 0 ls []) := by
    intro H locs ls hW hl
    unfold wX7_isLetter at h
    refine lv_bipush (v := 97) hx hb dX7_isLetter_0 (by decide) ?_
    refine lv_iload_n hx hb dX7_isLetter_2 rfl (lv_at hl 0 rfl) ?_
    refine lv_icmp_gt (tgt := 16) hx hb dX7_isLetter_3 (by decide) (fun c1001 => ?_) (fun c1001 => ?_)
    · have h := h.1 c1001
      exact blk16    _ _ _ _ hW (lv_sub hl [] rfl) h
    · have h := h.2 c1001
      refine lv_iload_n hx hb dX7_isLetter_6 rfl (lv_at hl 0 rfl) ?_
      refine lv_bipush (v := 122) hx hb dX7_isLetter_7 (by decide) ?_
      refine lv_icmp_gt (tgt := 16) hx hb dX7_isLetter_9 (by decide) (fun c1002 => ?_) (fun c1002 => ?_)
      · have h := h.1 c1002
        exact blk16    _ _ _ _ hW (lv_sub hl [] rfl) h
      · have h := h.2 c1002
        refine lv_iconst (v := 1) hx hb dX7_isLetter_12 (by decide) ?_
        refine lv_goto (tgt := 17) hx hb dX7_isLetter_13 (by decide) ?_
        exact blk17   (1 : Int32) _ _ _ _ hW (lv_sub hl [] rfl) h
  exact main _ _ _ hW hl
theorem hwX7_nextNumber_0 : (.fieldLink RX7 38 "FortyBelts$Reader" "token" "I" : Cond) ∈ wsX7_nextNumber := (List.mem_cons_of_mem _ (List.mem_append_left _ (List.mem_of_getElem? (i := 5) rfl)))
theorem hwX7_nextNumber_1 : (.fieldLink RX7 28 "FortyBelts$Reader" "at" "I" : Cond) ∈ wsX7_nextNumber := (List.mem_cons_of_mem _ (List.mem_append_left _ (List.mem_of_getElem? (i := 1) rfl)))
theorem hwX7_nextNumber_2 : (.fieldLink RX7 41 "FortyBelts$Reader" "tokenPlace" "I" : Cond) ∈ wsX7_nextNumber := (List.mem_cons_of_mem _ (List.mem_append_left _ (List.mem_of_getElem? (i := 4) rfl)))
theorem hwX7_nextNumber_3 : (.fieldLink RX7 15 "FortyBelts$Reader" "fed" "I" : Cond) ∈ wsX7_nextNumber := (List.mem_cons_of_mem _ (List.mem_append_left _ (List.mem_of_getElem? (i := 2) rfl)))
theorem hwX7_nextNumber_4 : (.fieldLink RX7 11 "FortyBelts$Reader" "tape" "[I" : Cond) ∈ wsX7_nextNumber := (List.mem_cons_of_mem _ (List.mem_append_left _ (List.mem_of_getElem? (i := 3) rfl)))
theorem hwX7_nextNumber_5 : (.fieldLink RX7 72 "FortyBelts$Reader" "tokenValue" "I" : Cond) ∈ wsX7_nextNumber := (List.mem_cons_of_mem _ (List.mem_append_left _ (List.mem_of_getElem? (i := 0) rfl)))
theorem hcX7_nextNumber_X7 : ∀ w ∈ wsX70, w ∈ wsX7_nextNumber := fun _ h => (List.mem_cons_of_mem _ (List.mem_append_right _ h))
set_option maxHeartbeats 4000000 in
set_option maxRecDepth 100000 in
theorem J_X7_nextNumber {D : va_G} {KA : Nat → ClassId} {zs : ZS} {ad : Nat → Nat} {ids : List Nat} {sz : Nat} (l : Launch) (hI : ∀ c, n7 c → c ∈ ids) {st : Nat → Nat → Option Nat} (hst : ∀ c, n7 c → st c = stX c)   {σ : St} {post : St → Prop} (h : wX7_nextNumber ids  σ post) : Met l yX7_nextNumber wsX7_nextNumber rmX7_nextNumber (va_Pc [.ref (ad 2)] (xIn D KA zs layX st ad ids sz σ)) (va_Qv post (xOut D KA layX st ad ids) (xA ad ids sz)) 0 0 (xA ad ids sz) := by
  refine Met.ofW (cc := cX7_nextNumber) (maxL := 1) (ret := none) (by decide) rfl ?_
  intro p e s m args below meth c s₁ B hml hv
  obtain ⟨hav, hsz, hK, hZ, hP, hD⟩ := hv
  have hx := B.exec
  have hb := B.bytes
  have hr := B.returns
  have hts := atoms_spec (ws := wsX7_nextNumber) B.pre
  have hown : s.vm.findClass RX7 = some m.cls := findClass_of_methodNamed B.named
  have hlocks := B.notSynchronized
  subst hsz
  have hA : ∀ q : Nat, s.heap.size ≤ q → xA ad ids s.heap.size q := fun q h => Or.inr h
  have hW : xW D KA layX st ad ids (xA ad ids s.heap.size) s.heap σ s.heap [] := ⟨hP, xA_D (D := D) hD, va_S.rf⟩
  have kr : ∀ (σ : St) (H : Heap) (locs : List Loc) (ls : Array Slot) (pc : Nat), xW D KA layX st ad ids (xA ad ids s.heap.size) s.heap σ H locs → post σ → decode cX7_nextNumber pc = .ok (.return_, 1) → W p l e rmX7_nextNumber s m args below meth c H locs 0 0 (MQ below (va_Qv post (xOut D KA layX st ad ids) (xA ad ids s.heap.size)) args s 0 0 (xA ad ids s.heap.size)) (F0 m pc ls []) := fun σ H locs ls pc hW h hd => x_vret hx hb hr hlocks hW h hd
  have hl := lv_entry ([.ref (ad 2)]) (n := 1) (Nat.le_of_ble_eq_true rfl)
  rw [show entryFrame m args 1 = entryFrame m ([.ref (ad 2)] : List Value).toArray 1 from by rw [hav]]
  rw [lg_entry_eq]
  generalize (lg_sl ([.ref (ad 2)]) ++ List.replicate (1 - (lg_sl ([.ref (ad 2)])).length) Slot.unset).toArray = ls at hl ⊢
  have hl : lv_has ls 1 [(0, .ref (ad 2))] := hl
  show W p l e rmX7_nextNumber s m args below meth c s.heap [] 0 0 _ _
  generalize MQ below (va_Qv post (xOut D KA layX st ad ids) (xA ad ids s.heap.size)) args s 0 0 (xA ad ids s.heap.size) = Q at kr ⊢
  have blk87 : ∀ (s1 : Int32) (σ : St) (H : Heap) (locs : List Loc) (ls : Array Slot), xW D KA layX st ad ids (xA ad ids s.heap.size) s.heap σ H locs → lv_has ls 1 [] → wX7_nextNumber_87 ids post s1 σ → W p l e rmX7_nextNumber s m args below meth c H locs 0 0 Q (F0 m 87 ls [.int s1, .ref (ad 2)]) := by
    intro   s1 σ H locs ls hW hl h
    unfold wX7_nextNumber_87 at h
    refine xpX7_3 hx hb hts hown hK hW 2 hcX7_nextNumber_X7 (hI 2 (by decide)) lX_2 (hts _ hwX7_nextNumber_0) dX7_nextNumber_87 (fun σ1 H locs hσ1 hW => ?_)
    have h := h σ1 hσ1
    exact kr _ _ _ _ _ hW h dX7_nextNumber_90
  have blk68 : ∀ (σ : St) (H : Heap) (locs : List Loc) (ls : Array Slot), xW D KA layX st ad ids (xA ad ids s.heap.size) s.heap σ H locs → lv_has ls 1 [(0, .ref (ad 2))] → wX7_nextNumber_68 ids post  σ → W p l e rmX7_nextNumber s m args below meth c H locs 0 0 Q (F0 m 68 ls []) := by
    intro    σ H locs ls hW hl h
    unfold wX7_nextNumber_68 at h
    refine lv_aload_n hx hb dX7_nextNumber_68 rfl (lv_at hl 0 rfl) ?_
    refine lv_aload_n hx hb dX7_nextNumber_69 rfl (lv_at hl 0 rfl) ?_
    refine xgX7_2 hx hb hts hown hK hW 2 hcX7_nextNumber_X7 (hI 2 (by decide)) lX_2 (hts _ hwX7_nextNumber_1) dX7_nextNumber_70 ?_
    refine lv_aload_n hx hb dX7_nextNumber_73 rfl (lv_at hl 0 rfl) ?_
    refine xgX7_4 hx hb hts hown hK hW 2 hcX7_nextNumber_X7 (hI 2 (by decide)) lX_2 (hts _ hwX7_nextNumber_2) dX7_nextNumber_74 ?_
    refine lv_isub hx hb dX7_nextNumber_77 ?_
    refine lv_iconst (v := 4) hx hb dX7_nextNumber_78 (by decide) ?_
    refine lv_icmp_gt (tgt := 86) hx hb dX7_nextNumber_79 (by decide) (fun c2 => ?_) (fun c2 => ?_)
    · have h := h.1 c2
      refine lv_iconst (v := 1) hx hb dX7_nextNumber_86 (by decide) ?_
      exact blk87   (1 : Int32) _ _ _ _ hW (lv_sub hl [] rfl) h
    · have h := h.2 c2
      refine lv_iconst (v := 2) hx hb dX7_nextNumber_82 (by decide) ?_
      refine lv_goto (tgt := 87) hx hb dX7_nextNumber_83 (by decide) ?_
      exact blk87   (2 : Int32) _ _ _ _ hW (lv_sub hl [] rfl) h
  have blk5 : ∀ (n : Nat)  (σ : St) (H : Heap) (locs : List Loc) (ls : Array Slot), xW D KA layX st ad ids (xA ad ids s.heap.size) s.heap σ H locs → lv_has ls 1 [(0, .ref (ad 2))] → wX7_nextNumber_5 ids post  n  σ → W p l e rmX7_nextNumber s m args below meth c H locs 0 0 Q (F0 m 5 ls []) := by
    intro    n
    induction n with
    | zero => intro  σ H locs ls hW hl h; exact (h : False).elim
    | succ n ih =>
      intro  σ H locs ls hW hl h
      have hk5 : ∀  (σ : St) (H : Heap) (locs : List Loc) (ls : Array Slot), xW D KA layX st ad ids (xA ad ids s.heap.size) s.heap σ H locs → lv_has ls 1 [(0, .ref (ad 2))] → (wX7_nextNumber_5 ids post  n)  σ → W p l e rmX7_nextNumber s m args below meth c H locs 0 0 Q (F0 m 5 ls []) := fun  σ H locs ls hW hl h => ih  σ H locs ls hW hl h
      rw [wX7_nextNumber_5_s] at h
      try dsimp only at h
      generalize wX7_nextNumber_5 ids post  n = k5 at h hk5
      refine lv_aload_n hx hb dX7_nextNumber_5 rfl (lv_at hl 0 rfl) ?_
      refine xgX7_2 hx hb hts hown hK hW 2 hcX7_nextNumber_X7 (hI 2 (by decide)) lX_2 (hts _ hwX7_nextNumber_1) dX7_nextNumber_6 ?_
      refine lv_aload_n hx hb dX7_nextNumber_9 rfl (lv_at hl 0 rfl) ?_
      refine xgX7_1 hx hb hts hown hK hW 2 hcX7_nextNumber_X7 (hI 2 (by decide)) lX_2 (hts _ hwX7_nextNumber_3) dX7_nextNumber_10 ?_
      refine lv_icmp_ge (tgt := 68) hx hb dX7_nextNumber_13 (by decide) (fun c3 => ?_) (fun c3 => ?_)
      · have h := h.1 c3
        exact blk68    _ _ _ _ hW (lv_sub hl [0] rfl) h
      · have h := h.2 c3
        refine lv_aload_n hx hb dX7_nextNumber_16 rfl (lv_at hl 0 rfl) ?_
        refine xgX7_0r hx hb hts hown hK hW 2 hcX7_nextNumber_X7 (hI 2 (by decide)) lX_2 (hts _ hwX7_nextNumber_4) (s7_2_0 hst _) dX7_nextNumber_17 ?_
        refine lv_aload_n hx hb dX7_nextNumber_20 rfl (lv_at hl 0 rfl) ?_
        refine xgX7_2 hx hb hts hown hK hW 2 hcX7_nextNumber_X7 (hI 2 (by decide)) lX_2 (hts _ hwX7_nextNumber_1) dX7_nextNumber_21 ?_
        obtain ⟨hi4, h⟩ := h
        refine x_iald hx hb hK hW 13 (hI 13 (by decide)) lX_13 hi4 dX7_nextNumber_24 ?_
        refine x_calli (va_runS (As := [.int (gI σ 13 (gI σ 2 2).toNatClampNeg)]) (rest := []) ⟨hx, hb, hml, hown, hts⟩ (J_X7_isDigit l hI hst h) (va_cwS 1 hts gX7_nextNumber_X7_isDigit rfl rfl rfl hdS_X7_isDigit ⟨Nat.le_of_ble_eq_true rfl, Nat.le_of_ble_eq_true rfl⟩) (x_preS hK hZ hA hW) rfl rfl hl.1 rfl (lv_room (Nat.le_of_ble_eq_true rfl)) dX7_nextNumber_25 ⟨Nat.zero_le _, Nat.zero_le _⟩) hW hA (fun r6 σ5 H locs h hW => ?_)
        try dsimp only at h
        refine lv_if_eq (tgt := 68) hx hb dX7_nextNumber_28 (by decide) (fun c7 => ?_) (fun c7 => ?_)
        · have h := h.1 c7
          exact blk68    _ _ _ _ hW (lv_sub hl [0] rfl) h
        · have h := h.2 c7
          refine lv_aload_n hx hb dX7_nextNumber_31 rfl (lv_at hl 0 rfl) ?_
          refine lv_aload_n hx hb dX7_nextNumber_32 rfl (lv_at hl 0 rfl) ?_
          refine xgX7_5 hx hb hts hown hK hW 2 hcX7_nextNumber_X7 (hI 2 (by decide)) lX_2 (hts _ hwX7_nextNumber_5) dX7_nextNumber_33 ?_
          refine lv_bipush (v := 10) hx hb dX7_nextNumber_36 (by decide) ?_
          refine lv_imul hx hb dX7_nextNumber_38 ?_
          refine lv_aload_n hx hb dX7_nextNumber_39 rfl (lv_at hl 0 rfl) ?_
          refine xgX7_0r hx hb hts hown hK hW 2 hcX7_nextNumber_X7 (hI 2 (by decide)) lX_2 (hts _ hwX7_nextNumber_4) (s7_2_0 hst _) dX7_nextNumber_40 ?_
          refine lv_aload_n hx hb dX7_nextNumber_43 rfl (lv_at hl 0 rfl) ?_
          refine xgX7_2 hx hb hts hown hK hW 2 hcX7_nextNumber_X7 (hI 2 (by decide)) lX_2 (hts _ hwX7_nextNumber_1) dX7_nextNumber_44 ?_
          obtain ⟨hi8, h⟩ := h
          refine x_iald hx hb hK hW 13 (hI 13 (by decide)) lX_13 hi8 dX7_nextNumber_47 ?_
          refine lv_iadd hx hb dX7_nextNumber_48 ?_
          refine lv_bipush (v := 48) hx hb dX7_nextNumber_49 (by decide) ?_
          refine lv_isub hx hb dX7_nextNumber_51 ?_
          refine xpX7_5 hx hb hts hown hK hW 2 hcX7_nextNumber_X7 (hI 2 (by decide)) lX_2 (hts _ hwX7_nextNumber_5) dX7_nextNumber_52 (fun σ9 H locs hσ9 hW => ?_)
          have h := h σ9 hσ9
          refine lv_aload_n hx hb dX7_nextNumber_55 rfl (lv_at hl 0 rfl) ?_
          refine lv_dup hx hb dX7_nextNumber_56 rfl ?_
          refine xgX7_2 hx hb hts hown hK hW 2 hcX7_nextNumber_X7 (hI 2 (by decide)) lX_2 (hts _ hwX7_nextNumber_1) dX7_nextNumber_57 ?_
          refine lv_iconst (v := 1) hx hb dX7_nextNumber_60 (by decide) ?_
          refine lv_iadd hx hb dX7_nextNumber_61 ?_
          refine xpX7_2 hx hb hts hown hK hW 2 hcX7_nextNumber_X7 (hI 2 (by decide)) lX_2 (hts _ hwX7_nextNumber_1) dX7_nextNumber_62 (fun σ10 H locs hσ10 hW => ?_)
          have h := h σ10 hσ10
          refine lv_goto (tgt := 5) hx hb dX7_nextNumber_65 (by decide) ?_
          exact hk5  _ _ _ _ hW (lv_sub hl [0] rfl) h
  have main : ∀ (H : Heap) (locs : List Loc) (ls : Array Slot), xW D KA layX st ad ids (xA ad ids s.heap.size) s.heap σ H locs → lv_has ls 1 [(0, .ref (ad 2))] → W p l e rmX7_nextNumber s m args below meth c H locs 0 0 Q (F0 m 0 ls []) := by
    intro H locs ls hW hl
    unfold wX7_nextNumber at h
    refine lv_aload_n hx hb dX7_nextNumber_0 rfl (lv_at hl 0 rfl) ?_
    refine lv_iconst (v := 0) hx hb dX7_nextNumber_1 (by decide) ?_
    refine xpX7_5 hx hb hts hown hK hW 2 hcX7_nextNumber_X7 (hI 2 (by decide)) lX_2 (hts _ hwX7_nextNumber_5) dX7_nextNumber_2 (fun σ1001 H locs hσ1001 hW => ?_)
    have h := h σ1001 hσ1001
    obtain ⟨n, h⟩ := h
    exact blk5    n  _ _ _ _ hW (lv_sub hl [0] rfl) h
  exact main _ _ _ hW hl
theorem hwX7_isWord_0 : (.fieldLink RX7 11 "FortyBelts$Reader" "tape" "[I" : Cond) ∈ wsX7_isWord := (List.mem_cons_of_mem _ (List.mem_append_left _ (List.mem_append_left _ (List.mem_of_getElem? (i := 2) rfl))))
theorem hwX7_isWord_1 : (.fieldLink RX7 41 "FortyBelts$Reader" "tokenPlace" "I" : Cond) ∈ wsX7_isWord := (List.mem_cons_of_mem _ (List.mem_append_left _ (List.mem_append_left _ (List.mem_of_getElem? (i := 1) rfl))))
theorem hwX7_isWord_2 : (.fieldLink RX7 28 "FortyBelts$Reader" "at" "I" : Cond) ∈ wsX7_isWord := (List.mem_cons_of_mem _ (List.mem_append_left _ (List.mem_append_left _ (List.mem_of_getElem? (i := 0) rfl))))
theorem hcX7_isWord_X7 : ∀ w ∈ wsX70, w ∈ wsX7_isWord := fun _ h => (List.mem_cons_of_mem _ (List.mem_append_right _ h))
set_option maxHeartbeats 4000000 in
set_option maxRecDepth 100000 in
theorem J_X7_isWord {D : va_G} {KA : Nat → ClassId} {zs : ZS} {ad : Nat → Nat} {ids : List Nat} {sz : Nat} (l : Launch) (hI : ∀ c, n7 c → c ∈ ids) {st : Nat → Nat → Option Nat} (hst : ∀ c, n7 c → st c = stX c) {a1 : Int32}  {σ : St} {post : Int32 → St → Prop} (h : wX7_isWord ids a1 σ post) : Met l yX7_isWord wsX7_isWord rmX7_isWord (va_Pc [.ref (ad 2), .int a1] (xIn D KA zs layX st ad ids sz σ)) (va_Qi post (xOut D KA layX st ad ids) (xA ad ids sz)) 0 0 (xA ad ids sz) := by
  refine Met.ofW (cc := cX7_isWord) (maxL := 5) (ret := (some .boolean)) (by decide) rfl ?_
  intro p e s m args below meth c s₁ B hml hv
  obtain ⟨hav, hsz, hK, hZ, hP, hD⟩ := hv
  have hx := B.exec
  have hb := B.bytes
  have hr := B.returns
  have hts := atoms_spec (ws := wsX7_isWord) B.pre
  have hown : s.vm.findClass RX7 = some m.cls := findClass_of_methodNamed B.named
  have hlocks := B.notSynchronized
  subst hsz
  have hA : ∀ q : Nat, s.heap.size ≤ q → xA ad ids s.heap.size q := fun q h => Or.inr h
  have hW : xW D KA layX st ad ids (xA ad ids s.heap.size) s.heap σ s.heap [] := ⟨hP, xA_D (D := D) hD, va_S.rf⟩
  have kr : ∀ (v : Int32) (σ : St) (H : Heap) (locs : List Loc) (ls : Array Slot) (pc : Nat), xW D KA layX st ad ids (xA ad ids s.heap.size) s.heap σ H locs → isB v → post v σ → decode cX7_isWord pc = .ok (.ireturn, 1) → W p l e rmX7_isWord s m args below meth c H locs 0 0 (MQ below (va_Qi post (xOut D KA layX st ad ids) (xA ad ids s.heap.size)) args s 0 0 (xA ad ids s.heap.size)) (F0 m pc ls [.int v]) := fun v σ H locs ls pc hW hz h hd => x_zret hx hb hr hlocks hW hz h hd
  have hl := lv_entry ([.ref (ad 2), .int a1]) (n := 5) (Nat.le_of_ble_eq_true rfl)
  rw [show entryFrame m args 5 = entryFrame m ([.ref (ad 2), .int a1] : List Value).toArray 5 from by rw [hav]]
  rw [lg_entry_eq]
  generalize (lg_sl ([.ref (ad 2), .int a1]) ++ List.replicate (5 - (lg_sl ([.ref (ad 2), .int a1])).length) Slot.unset).toArray = ls at hl ⊢
  have hl : lv_has ls 5 [(0, .ref (ad 2)), (1, .int a1)] := hl
  show W p l e rmX7_isWord s m args below meth c s.heap [] 0 0 _ _
  generalize MQ below (va_Qi post (xOut D KA layX st ad ids) (xA ad ids s.heap.size)) args s 0 0 (xA ad ids s.heap.size) = Q at kr ⊢
  have blk47 : ∀ (x1 : Int32) (x2 : Int32) (k20 : Int32 → St → Prop) (hk20 : ∀ (x3 : Int32) (σ : St) (H : Heap) (locs : List Loc) (ls : Array Slot), xW D KA layX st ad ids (xA ad ids s.heap.size) s.heap σ H locs → lv_has ls 5 [(0, .ref (ad 2)), (1, .int x1), (2, .int x2), (3, .int x3)] → k20 x3 σ → W p l e rmX7_isWord s m args below meth c H locs 0 0 Q (F0 m 20 ls [])) (x3 : Int32) (s0 : Int32) (σ : St) (H : Heap) (locs : List Loc) (ls : Array Slot), xW D KA layX st ad ids (xA ad ids s.heap.size) s.heap σ H locs → lv_has ls 5 [(0, .ref (ad 2)), (1, .int x1), (2, .int x2), (3, .int x3)] → wX7_isWord_47 ids k20 post x1 x2 x3 s0 σ → W p l e rmX7_isWord s m args below meth c H locs 0 0 Q (F0 m 47 ls [.int s0]) := by
    intro x1 x2 k20 hk20 x3 s0 σ H locs ls hW hl h
    unfold wX7_isWord_47 at h
    refine lv_istore (lv' := [(4, .int s0), (0, .ref (ad 2)), (1, .int x1), (2, .int x2), (3, .int x3)]) hx hb dX7_isWord_47 hl (by decide) rfl (fun ls hl => ?_)
    refine va_ldcS hx hb hown hZ.2.2.2.2.2 dX7_isWord_49 ?_
    refine lv_iload_n hx hb dX7_isWord_51 rfl (lv_at hl 2 rfl) ?_
    refine lv_bipush (v := 6) hx hb dX7_isWord_52 (by decide) ?_
    refine lv_imul hx hb dX7_isWord_54 ?_
    refine lv_iload_n hx hb dX7_isWord_55 rfl (lv_at hl 4 rfl) ?_
    refine lv_iadd hx hb dX7_isWord_56 ?_
    obtain ⟨hi1, h⟩ := h
    refine xs_calli (va_runV (As := [.int ((x1 * (6 : Int32)) + x3)]) (rest := []) ⟨hx, hb, hml, hown, hts⟩ (J_charAt (post := fun r => r = (xCh 2 ((x1 * (6 : Int32)) + x3).toNatClampNeg)) l 2 ((x1 * (6 : Int32)) + x3) (by decide) hi1 rfl) (cwV 1 hts gX7_isWord_J0_charAt_5068e rfl rfl rfl (by decide +kernel) ⟨Nat.le_of_ble_eq_true rfl, Nat.le_of_ble_eq_true rfl⟩) (xs_preV hZ hW.2.2 hA 2 (by decide)) rfl rfl hl.1 rfl (lv_room (Nat.le_of_ble_eq_true rfl)) dX7_isWord_57 ⟨Nat.le_of_ble_eq_true rfl, Nat.le_of_ble_eq_true rfl⟩) (fun r2 hr2 => ?_)
    subst hr2
    refine lv_iload hx hb dX7_isWord_60 (lv_at hl 0 rfl) ?_
    refine lv_icmp_eq (tgt := 67) hx hb dX7_isWord_62 (by decide) (fun c3 => ?_) (fun c3 => ?_)
    · have h := h.1 c3
      obtain ⟨v4, hv4⟩ : ∃ y : Int32, y = x3 + (1 : Int32) := ⟨_, rfl⟩
      have h := h v4 hv4
      refine lv_iinc (v := v4) (lv' := [(3, .int v4), (4, .int s0), (0, .ref (ad 2)), (1, .int x1), (2, .int x2)]) hx hb dX7_isWord_67 hl (k := 4) rfl (by rw [hv4]; rfl) (by decide) rfl (fun ls hl => ?_)
      refine lv_goto (tgt := 20) hx hb dX7_isWord_70 (by decide) ?_
      exact hk20 v4 _ _ _ _ hW (lv_sub hl [2, 3, 4, 0] rfl) h
    · have h := h.2 c3
      refine lv_iconst (v := 0) hx hb dX7_isWord_65 (by decide) ?_
      exact kr _ _ _ _ _ _ hW isB_0 h dX7_isWord_66
  have blk20 : ∀ (x1 : Int32) (x2 : Int32) (n : Nat) (x3 : Int32) (σ : St) (H : Heap) (locs : List Loc) (ls : Array Slot), xW D KA layX st ad ids (xA ad ids s.heap.size) s.heap σ H locs → lv_has ls 5 [(0, .ref (ad 2)), (1, .int x1), (2, .int x2), (3, .int x3)] → wX7_isWord_20 ids post x1 x2 n x3 σ → W p l e rmX7_isWord s m args below meth c H locs 0 0 Q (F0 m 20 ls []) := by
    intro   x1 x2 n
    induction n with
    | zero => intro x3 σ H locs ls hW hl h; exact (h : False).elim
    | succ n ih =>
      intro x3 σ H locs ls hW hl h
      have hk20 : ∀ (x3 : Int32) (σ : St) (H : Heap) (locs : List Loc) (ls : Array Slot), xW D KA layX st ad ids (xA ad ids s.heap.size) s.heap σ H locs → lv_has ls 5 [(0, .ref (ad 2)), (1, .int x1), (2, .int x2), (3, .int x3)] → (wX7_isWord_20 ids post x1 x2 n) x3 σ → W p l e rmX7_isWord s m args below meth c H locs 0 0 Q (F0 m 20 ls []) := fun x3 σ H locs ls hW hl h => ih x3 σ H locs ls hW hl h
      rw [wX7_isWord_20_s] at h
      try dsimp only at h
      generalize wX7_isWord_20 ids post x1 x2 n = k20 at h hk20
      refine lv_iload_n hx hb dX7_isWord_20 rfl (lv_at hl 3 rfl) ?_
      refine lv_bipush (v := 6) hx hb dX7_isWord_21 (by decide) ?_
      refine lv_icmp_ge (tgt := 73) hx hb dX7_isWord_23 (by decide) (fun c5 => ?_) (fun c5 => ?_)
      · have h := h.1 c5
        refine lv_iconst (v := 1) hx hb dX7_isWord_73 (by decide) ?_
        exact kr _ _ _ _ _ _ hW isB_1 h dX7_isWord_74
      · have h := h.2 c5
        refine lv_iload_n hx hb dX7_isWord_26 rfl (lv_at hl 3 rfl) ?_
        refine lv_iload_n hx hb dX7_isWord_27 rfl (lv_at hl 2 rfl) ?_
        refine lv_icmp_ge (tgt := 45) hx hb dX7_isWord_28 (by decide) (fun c6 => ?_) (fun c6 => ?_)
        · have h := h.1 c6
          refine lv_bipush (v := 32) hx hb dX7_isWord_45 (by decide) ?_
          exact blk47 x1 x2 k20 hk20 x3 (32 : Int32) _ _ _ _ hW (lv_sub hl [0, 1, 2, 3] rfl) h
        · have h := h.2 c6
          refine lv_aload_n hx hb dX7_isWord_31 rfl (lv_at hl 0 rfl) ?_
          refine xgX7_0r hx hb hts hown hK hW 2 hcX7_isWord_X7 (hI 2 (by decide)) lX_2 (hts _ hwX7_isWord_0) (s7_2_0 hst _) dX7_isWord_32 ?_
          refine lv_aload_n hx hb dX7_isWord_35 rfl (lv_at hl 0 rfl) ?_
          refine xgX7_4 hx hb hts hown hK hW 2 hcX7_isWord_X7 (hI 2 (by decide)) lX_2 (hts _ hwX7_isWord_1) dX7_isWord_36 ?_
          refine lv_iload_n hx hb dX7_isWord_39 rfl (lv_at hl 3 rfl) ?_
          refine lv_iadd hx hb dX7_isWord_40 ?_
          obtain ⟨hi7, h⟩ := h
          refine x_iald hx hb hK hW 13 (hI 13 (by decide)) lX_13 hi7 dX7_isWord_41 ?_
          refine lv_goto (tgt := 47) hx hb dX7_isWord_42 (by decide) ?_
          exact blk47 x1 x2 k20 hk20 x3 (gI σ 13 ((gI σ 2 4) + x3).toNatClampNeg) _ _ _ _ hW (lv_sub hl [0, 1, 2, 3] rfl) h
  have main : ∀ (H : Heap) (locs : List Loc) (ls : Array Slot), xW D KA layX st ad ids (xA ad ids s.heap.size) s.heap σ H locs → lv_has ls 5 [(0, .ref (ad 2)), (1, .int a1)] → W p l e rmX7_isWord s m args below meth c H locs 0 0 Q (F0 m 0 ls []) := by
    intro H locs ls hW hl
    unfold wX7_isWord at h
    refine lv_aload_n hx hb dX7_isWord_0 rfl (lv_at hl 0 rfl) ?_
    refine xgX7_2 hx hb hts hown hK hW 2 hcX7_isWord_X7 (hI 2 (by decide)) lX_2 (hts _ hwX7_isWord_2) dX7_isWord_1 ?_
    refine lv_aload_n hx hb dX7_isWord_4 rfl (lv_at hl 0 rfl) ?_
    refine xgX7_4 hx hb hts hown hK hW 2 hcX7_isWord_X7 (hI 2 (by decide)) lX_2 (hts _ hwX7_isWord_1) dX7_isWord_5 ?_
    refine lv_isub hx hb dX7_isWord_8 ?_
    refine lv_topi (fun v1001 hv1001 => ?_)
    have h := h v1001 hv1001
    refine lv_istore_n (lv' := [(2, .int v1001), (0, .ref (ad 2)), (1, .int a1)]) hx hb dX7_isWord_9 rfl hl (by decide) rfl (fun ls hl => ?_)
    refine lv_iload_n hx hb dX7_isWord_10 rfl (lv_at hl 0 rfl) ?_
    refine lv_bipush (v := 6) hx hb dX7_isWord_11 (by decide) ?_
    refine lv_icmp_lt (tgt := 18) hx hb dX7_isWord_13 (by decide) (fun c1002 => ?_) (fun c1002 => ?_)
    · have h := h.1 c1002
      refine lv_iconst (v := 0) hx hb dX7_isWord_18 (by decide) ?_
      refine lv_istore_n (lv' := [(3, .int (0 : Int32)), (2, .int v1001), (0, .ref (ad 2)), (1, .int a1)]) hx hb dX7_isWord_19 rfl hl (by decide) rfl (fun ls hl => ?_)
      obtain ⟨n, h⟩ := h
      exact blk20   a1 v1001 n (0 : Int32) _ _ _ _ hW (lv_sub hl [2, 3, 1, 0] rfl) h
    · have h := h.2 c1002
      refine lv_iconst (v := 0) hx hb dX7_isWord_16 (by decide) ?_
      exact kr _ _ _ _ _ _ hW isB_0 h dX7_isWord_17
  exact main _ _ _ hW hl
theorem hwX7_nextWord_0 : (.fieldLink RX7 38 "FortyBelts$Reader" "token" "I" : Cond) ∈ wsX7_nextWord := (List.mem_cons_of_mem _ (List.mem_append_left _ (List.mem_append_left _ (List.mem_of_getElem? (i := 3) rfl))))
theorem hwX7_nextWord_1 : (.fieldLink RX7 72 "FortyBelts$Reader" "tokenValue" "I" : Cond) ∈ wsX7_nextWord := (List.mem_cons_of_mem _ (List.mem_append_left _ (List.mem_append_left _ (List.mem_of_getElem? (i := 4) rfl))))
theorem hwX7_nextWord_2 : (.fieldLink RX7 28 "FortyBelts$Reader" "at" "I" : Cond) ∈ wsX7_nextWord := (List.mem_cons_of_mem _ (List.mem_append_left _ (List.mem_append_left _ (List.mem_of_getElem? (i := 0) rfl))))
theorem hwX7_nextWord_3 : (.fieldLink RX7 15 "FortyBelts$Reader" "fed" "I" : Cond) ∈ wsX7_nextWord := (List.mem_cons_of_mem _ (List.mem_append_left _ (List.mem_append_left _ (List.mem_of_getElem? (i := 1) rfl))))
theorem hwX7_nextWord_4 : (.fieldLink RX7 11 "FortyBelts$Reader" "tape" "[I" : Cond) ∈ wsX7_nextWord := (List.mem_cons_of_mem _ (List.mem_append_left _ (List.mem_append_left _ (List.mem_of_getElem? (i := 2) rfl))))
theorem hcX7_nextWord_X7 : ∀ w ∈ wsX70, w ∈ wsX7_nextWord := fun _ h => (List.mem_cons_of_mem _ (List.mem_append_right _ h))
set_option maxHeartbeats 4000000 in
set_option maxRecDepth 100000 in
theorem J_X7_nextWord {D : va_G} {KA : Nat → ClassId} {zs : ZS} {ad : Nat → Nat} {ids : List Nat} {sz : Nat} (l : Launch) (hI : ∀ c, n7 c → c ∈ ids) {st : Nat → Nat → Option Nat} (hst : ∀ c, n7 c → st c = stX c)   {σ : St} {post : St → Prop} (h : wX7_nextWord ids  σ post) : Met l yX7_nextWord wsX7_nextWord rmX7_nextWord (va_Pc [.ref (ad 2)] (xIn D KA zs layX st ad ids sz σ)) (va_Qv post (xOut D KA layX st ad ids) (xA ad ids sz)) 0 0 (xA ad ids sz) := by
  refine Met.ofW (cc := cX7_nextWord) (maxL := 2) (ret := none) (by decide) rfl ?_
  intro p e s m args below meth c s₁ B hml hv
  obtain ⟨hav, hsz, hK, hZ, hP, hD⟩ := hv
  have hx := B.exec
  have hb := B.bytes
  have hr := B.returns
  have hts := atoms_spec (ws := wsX7_nextWord) B.pre
  have hown : s.vm.findClass RX7 = some m.cls := findClass_of_methodNamed B.named
  have hlocks := B.notSynchronized
  subst hsz
  have hA : ∀ q : Nat, s.heap.size ≤ q → xA ad ids s.heap.size q := fun q h => Or.inr h
  have hW : xW D KA layX st ad ids (xA ad ids s.heap.size) s.heap σ s.heap [] := ⟨hP, xA_D (D := D) hD, va_S.rf⟩
  have kr : ∀ (σ : St) (H : Heap) (locs : List Loc) (ls : Array Slot) (pc : Nat), xW D KA layX st ad ids (xA ad ids s.heap.size) s.heap σ H locs → post σ → decode cX7_nextWord pc = .ok (.return_, 1) → W p l e rmX7_nextWord s m args below meth c H locs 0 0 (MQ below (va_Qv post (xOut D KA layX st ad ids) (xA ad ids s.heap.size)) args s 0 0 (xA ad ids s.heap.size)) (F0 m pc ls []) := fun σ H locs ls pc hW h hd => x_vret hx hb hr hlocks hW h hd
  have hl := lv_entry ([.ref (ad 2)]) (n := 2) (Nat.le_of_ble_eq_true rfl)
  rw [show entryFrame m args 2 = entryFrame m ([.ref (ad 2)] : List Value).toArray 2 from by rw [hav]]
  rw [lg_entry_eq]
  generalize (lg_sl ([.ref (ad 2)]) ++ List.replicate (2 - (lg_sl ([.ref (ad 2)])).length) Slot.unset).toArray = ls at hl ⊢
  have hl : lv_has ls 2 [(0, .ref (ad 2))] := hl
  show W p l e rmX7_nextWord s m args below meth c s.heap [] 0 0 _ _
  generalize MQ below (va_Qv post (xOut D KA layX st ad ids) (xA ad ids s.heap.size)) args s 0 0 (xA ad ids s.heap.size) = Q at kr ⊢
  have blk85 : ∀ (k46 : Int32 → St → Prop) (hk46 : ∀ (x1 : Int32) (σ : St) (H : Heap) (locs : List Loc) (ls : Array Slot), xW D KA layX st ad ids (xA ad ids s.heap.size) s.heap σ H locs → lv_has ls 2 [(0, .ref (ad 2)), (1, .int x1)] → k46 x1 σ → W p l e rmX7_nextWord s m args below meth c H locs 0 0 Q (F0 m 46 ls [])) (x1 : Int32) (σ : St) (H : Heap) (locs : List Loc) (ls : Array Slot), xW D KA layX st ad ids (xA ad ids s.heap.size) s.heap σ H locs → lv_has ls 2 [(0, .ref (ad 2)), (1, .int x1)] → wX7_nextWord_85 ids k46 post x1 σ → W p l e rmX7_nextWord s m args below meth c H locs 0 0 Q (F0 m 85 ls []) := by
    intro  k46 hk46 x1 σ H locs ls hW hl h
    unfold wX7_nextWord_85 at h
    obtain ⟨v1, hv1⟩ : ∃ y : Int32, y = x1 + (1 : Int32) := ⟨_, rfl⟩
    have h := h v1 hv1
    refine lv_iinc (v := v1) (lv' := [(1, .int v1), (0, .ref (ad 2))]) hx hb dX7_nextWord_85 hl (k := 1) rfl (by rw [hv1]; rfl) (by decide) rfl (fun ls hl => ?_)
    refine lv_goto (tgt := 46) hx hb dX7_nextWord_88 (by decide) ?_
    exact hk46 v1 _ _ _ _ hW (lv_sub hl [1, 0] rfl) h
  have blk82 : ∀ (k46 : Int32 → St → Prop) (hk46 : ∀ (x1 : Int32) (σ : St) (H : Heap) (locs : List Loc) (ls : Array Slot), xW D KA layX st ad ids (xA ad ids s.heap.size) s.heap σ H locs → lv_has ls 2 [(0, .ref (ad 2)), (1, .int x1)] → k46 x1 σ → W p l e rmX7_nextWord s m args below meth c H locs 0 0 Q (F0 m 46 ls [])) (x1 : Int32) (s1 : Int32) (σ : St) (H : Heap) (locs : List Loc) (ls : Array Slot), xW D KA layX st ad ids (xA ad ids s.heap.size) s.heap σ H locs → lv_has ls 2 [(0, .ref (ad 2)), (1, .int x1)] → wX7_nextWord_82 ids k46 post x1 s1 σ → W p l e rmX7_nextWord s m args below meth c H locs 0 0 Q (F0 m 82 ls [.int s1, .ref (ad 2)]) := by
    intro  k46 hk46 x1 s1 σ H locs ls hW hl h
    unfold wX7_nextWord_82 at h
    refine xpX7_3 hx hb hts hown hK hW 2 hcX7_nextWord_X7 (hI 2 (by decide)) lX_2 (hts _ hwX7_nextWord_0) dX7_nextWord_82 (fun σ2 H locs hσ2 hW => ?_)
    have h := h σ2 hσ2
    exact blk85  k46 hk46 x1 _ _ _ _ hW (lv_sub hl [0, 1] rfl) h
  have blk46 : ∀ (n : Nat) (x1 : Int32) (σ : St) (H : Heap) (locs : List Loc) (ls : Array Slot), xW D KA layX st ad ids (xA ad ids s.heap.size) s.heap σ H locs → lv_has ls 2 [(0, .ref (ad 2)), (1, .int x1)] → wX7_nextWord_46 ids post  n x1 σ → W p l e rmX7_nextWord s m args below meth c H locs 0 0 Q (F0 m 46 ls []) := by
    intro    n
    induction n with
    | zero => intro x1 σ H locs ls hW hl h; exact (h : False).elim
    | succ n ih =>
      intro x1 σ H locs ls hW hl h
      have hk46 : ∀ (x1 : Int32) (σ : St) (H : Heap) (locs : List Loc) (ls : Array Slot), xW D KA layX st ad ids (xA ad ids s.heap.size) s.heap σ H locs → lv_has ls 2 [(0, .ref (ad 2)), (1, .int x1)] → (wX7_nextWord_46 ids post  n) x1 σ → W p l e rmX7_nextWord s m args below meth c H locs 0 0 Q (F0 m 46 ls []) := fun x1 σ H locs ls hW hl h => ih x1 σ H locs ls hW hl h
      rw [wX7_nextWord_46_s] at h
      try dsimp only at h
      generalize wX7_nextWord_46 ids post  n = k46 at h hk46
      refine lv_iload_n hx hb dX7_nextWord_46 rfl (lv_at hl 1 rfl) ?_
      refine lv_bipush (v := 12) hx hb dX7_nextWord_47 (by decide) ?_
      refine lv_icmp_ge (tgt := 91) hx hb dX7_nextWord_49 (by decide) (fun c3 => ?_) (fun c3 => ?_)
      · have h := h.1 c3
        exact kr _ _ _ _ _ hW h dX7_nextWord_91
      · have h := h.2 c3
        refine lv_aload_n hx hb dX7_nextWord_52 rfl (lv_at hl 0 rfl) ?_
        refine lv_iload_n hx hb dX7_nextWord_53 rfl (lv_at hl 1 rfl) ?_
        refine x_calli (va_runV (As := [.int x1]) (rest := []) ⟨hx, hb, hml, hown, hts⟩ (J_X7_isWord l hI hst h) (cwV 1 hts gX7_nextWord_X7_isWord rfl rfl rfl hdV_X7_isWord ⟨Nat.le_of_ble_eq_true rfl, Nat.le_of_ble_eq_true rfl⟩) (x_preV (ci := 7) hK hZ hA hW (hI 2 (by decide)) lX_2 rfl) rfl rfl hl.1 rfl (lv_room (Nat.le_of_ble_eq_true rfl)) dX7_nextWord_54 ⟨Nat.zero_le _, Nat.zero_le _⟩) hW hA (fun r5 σ4 H locs h hW => ?_)
        try dsimp only at h
        refine lv_if_eq (tgt := 85) hx hb dX7_nextWord_57 (by decide) (fun c6 => ?_) (fun c6 => ?_)
        · have h := h.1 c6
          exact blk85  k46 hk46 x1 _ _ _ _ hW (lv_sub hl [0, 1] rfl) h
        · have h := h.2 c6
          refine lv_aload_n hx hb dX7_nextWord_60 rfl (lv_at hl 0 rfl) ?_
          refine lv_iload_n hx hb dX7_nextWord_61 rfl (lv_at hl 1 rfl) ?_
          refine xpX7_5 hx hb hts hown hK hW 2 hcX7_nextWord_X7 (hI 2 (by decide)) lX_2 (hts _ hwX7_nextWord_1) dX7_nextWord_62 (fun σ7 H locs hσ7 hW => ?_)
          have h := h σ7 hσ7
          refine lv_aload_n hx hb dX7_nextWord_65 rfl (lv_at hl 0 rfl) ?_
          refine lv_iload_n hx hb dX7_nextWord_66 rfl (lv_at hl 1 rfl) ?_
          refine lv_bipush (v := 6) hx hb dX7_nextWord_67 (by decide) ?_
          refine lv_icmp_ge (tgt := 76) hx hb dX7_nextWord_69 (by decide) (fun c8 => ?_) (fun c8 => ?_)
          · have h := h.1 c8
            refine lv_iconst (v := 4) hx hb dX7_nextWord_76 (by decide) ?_
            refine lv_iload_n hx hb dX7_nextWord_77 rfl (lv_at hl 1 rfl) ?_
            refine lv_iadd hx hb dX7_nextWord_78 ?_
            refine lv_bipush (v := 6) hx hb dX7_nextWord_79 (by decide) ?_
            refine lv_isub hx hb dX7_nextWord_81 ?_
            exact blk82  k46 hk46 x1 (((4 : Int32) + x1) - (6 : Int32)) _ _ _ _ hW (lv_sub hl [0, 1] rfl) h
          · have h := h.2 c8
            refine lv_iconst (v := 3) hx hb dX7_nextWord_72 (by decide) ?_
            refine lv_goto (tgt := 82) hx hb dX7_nextWord_73 (by decide) ?_
            exact blk82  k46 hk46 x1 (3 : Int32) _ _ _ _ hW (lv_sub hl [0, 1] rfl) h
  have blk39 : ∀ (σ : St) (H : Heap) (locs : List Loc) (ls : Array Slot), xW D KA layX st ad ids (xA ad ids s.heap.size) s.heap σ H locs → lv_has ls 2 [(0, .ref (ad 2))] → wX7_nextWord_39 ids post  σ → W p l e rmX7_nextWord s m args below meth c H locs 0 0 Q (F0 m 39 ls []) := by
    intro    σ H locs ls hW hl h
    unfold wX7_nextWord_39 at h
    refine lv_aload_n hx hb dX7_nextWord_39 rfl (lv_at hl 0 rfl) ?_
    refine lv_iconst (v := 1) hx hb dX7_nextWord_40 (by decide) ?_
    refine xpX7_3 hx hb hts hown hK hW 2 hcX7_nextWord_X7 (hI 2 (by decide)) lX_2 (hts _ hwX7_nextWord_0) dX7_nextWord_41 (fun σ9 H locs hσ9 hW => ?_)
    have h := h σ9 hσ9
    refine lv_iconst (v := 0) hx hb dX7_nextWord_44 (by decide) ?_
    refine lv_istore_n (lv' := [(1, .int (0 : Int32)), (0, .ref (ad 2))]) hx hb dX7_nextWord_45 rfl hl (by decide) rfl (fun ls hl => ?_)
    obtain ⟨n, h⟩ := h
    exact blk46    n (0 : Int32) _ _ _ _ hW (lv_sub hl [1, 0] rfl) h
  have blk0 : ∀ (n : Nat)  (σ : St) (H : Heap) (locs : List Loc) (ls : Array Slot), xW D KA layX st ad ids (xA ad ids s.heap.size) s.heap σ H locs → lv_has ls 2 [(0, .ref (ad 2))] → wX7_nextWord_0 ids post  n  σ → W p l e rmX7_nextWord s m args below meth c H locs 0 0 Q (F0 m 0 ls []) := by
    intro    n
    induction n with
    | zero => intro  σ H locs ls hW hl h; exact (h : False).elim
    | succ n ih =>
      intro  σ H locs ls hW hl h
      have hk0 : ∀  (σ : St) (H : Heap) (locs : List Loc) (ls : Array Slot), xW D KA layX st ad ids (xA ad ids s.heap.size) s.heap σ H locs → lv_has ls 2 [(0, .ref (ad 2))] → (wX7_nextWord_0 ids post  n)  σ → W p l e rmX7_nextWord s m args below meth c H locs 0 0 Q (F0 m 0 ls []) := fun  σ H locs ls hW hl h => ih  σ H locs ls hW hl h
      rw [wX7_nextWord_0_s] at h
      try dsimp only at h
      generalize wX7_nextWord_0 ids post  n = k0 at h hk0
      refine lv_aload_n hx hb dX7_nextWord_0 rfl (lv_at hl 0 rfl) ?_
      refine xgX7_2 hx hb hts hown hK hW 2 hcX7_nextWord_X7 (hI 2 (by decide)) lX_2 (hts _ hwX7_nextWord_2) dX7_nextWord_1 ?_
      refine lv_aload_n hx hb dX7_nextWord_4 rfl (lv_at hl 0 rfl) ?_
      refine xgX7_1 hx hb hts hown hK hW 2 hcX7_nextWord_X7 (hI 2 (by decide)) lX_2 (hts _ hwX7_nextWord_3) dX7_nextWord_5 ?_
      refine lv_icmp_ge (tgt := 39) hx hb dX7_nextWord_8 (by decide) (fun c11 => ?_) (fun c11 => ?_)
      · have h := h.1 c11
        exact blk39    _ _ _ _ hW (lv_sub hl [0] rfl) h
      · have h := h.2 c11
        refine lv_aload_n hx hb dX7_nextWord_11 rfl (lv_at hl 0 rfl) ?_
        refine xgX7_0r hx hb hts hown hK hW 2 hcX7_nextWord_X7 (hI 2 (by decide)) lX_2 (hts _ hwX7_nextWord_4) (s7_2_0 hst _) dX7_nextWord_12 ?_
        refine lv_aload_n hx hb dX7_nextWord_15 rfl (lv_at hl 0 rfl) ?_
        refine xgX7_2 hx hb hts hown hK hW 2 hcX7_nextWord_X7 (hI 2 (by decide)) lX_2 (hts _ hwX7_nextWord_2) dX7_nextWord_16 ?_
        obtain ⟨hi12, h⟩ := h
        refine x_iald hx hb hK hW 13 (hI 13 (by decide)) lX_13 hi12 dX7_nextWord_19 ?_
        refine x_calli (va_runS (As := [.int (gI σ 13 (gI σ 2 2).toNatClampNeg)]) (rest := []) ⟨hx, hb, hml, hown, hts⟩ (J_X7_isLetter l hI hst h) (va_cwS 1 hts gX7_nextWord_X7_isLetter rfl rfl rfl hdS_X7_isLetter ⟨Nat.le_of_ble_eq_true rfl, Nat.le_of_ble_eq_true rfl⟩) (x_preS hK hZ hA hW) rfl rfl hl.1 rfl (lv_room (Nat.le_of_ble_eq_true rfl)) dX7_nextWord_20 ⟨Nat.zero_le _, Nat.zero_le _⟩) hW hA (fun r14 σ13 H locs h hW => ?_)
        try dsimp only at h
        refine lv_if_eq (tgt := 39) hx hb dX7_nextWord_23 (by decide) (fun c15 => ?_) (fun c15 => ?_)
        · have h := h.1 c15
          exact blk39    _ _ _ _ hW (lv_sub hl [0] rfl) h
        · have h := h.2 c15
          refine lv_aload_n hx hb dX7_nextWord_26 rfl (lv_at hl 0 rfl) ?_
          refine lv_dup hx hb dX7_nextWord_27 rfl ?_
          refine xgX7_2 hx hb hts hown hK hW 2 hcX7_nextWord_X7 (hI 2 (by decide)) lX_2 (hts _ hwX7_nextWord_2) dX7_nextWord_28 ?_
          refine lv_iconst (v := 1) hx hb dX7_nextWord_31 (by decide) ?_
          refine lv_iadd hx hb dX7_nextWord_32 ?_
          refine xpX7_2 hx hb hts hown hK hW 2 hcX7_nextWord_X7 (hI 2 (by decide)) lX_2 (hts _ hwX7_nextWord_2) dX7_nextWord_33 (fun σ16 H locs hσ16 hW => ?_)
          have h := h σ16 hσ16
          refine lv_goto (tgt := 0) hx hb dX7_nextWord_36 (by decide) ?_
          exact hk0  _ _ _ _ hW (lv_sub hl [0] rfl) h
  have main : ∀ (H : Heap) (locs : List Loc) (ls : Array Slot), xW D KA layX st ad ids (xA ad ids s.heap.size) s.heap σ H locs → lv_has ls 2 [(0, .ref (ad 2))] → W p l e rmX7_nextWord s m args below meth c H locs 0 0 Q (F0 m 0 ls []) := by
    intro H locs ls hW hl
    unfold wX7_nextWord at h
    obtain ⟨n, h⟩ := h
    exact blk0    n  _ _ _ _ hW (lv_sub hl [0] rfl) h
  exact main _ _ _ hW hl
theorem hwX7_next_0 : (.fieldLink RX7 38 "FortyBelts$Reader" "token" "I" : Cond) ∈ wsX7_next := (List.mem_cons_of_mem _ (List.mem_append_left _ (List.mem_append_left _ (List.mem_of_getElem? (i := 4) rfl))))
theorem hwX7_next_1 : (.fieldLink RX7 28 "FortyBelts$Reader" "at" "I" : Cond) ∈ wsX7_next := (List.mem_cons_of_mem _ (List.mem_append_left _ (List.mem_append_left _ (List.mem_of_getElem? (i := 0) rfl))))
theorem hwX7_next_2 : (.fieldLink RX7 41 "FortyBelts$Reader" "tokenPlace" "I" : Cond) ∈ wsX7_next := (List.mem_cons_of_mem _ (List.mem_append_left _ (List.mem_append_left _ (List.mem_of_getElem? (i := 3) rfl))))
theorem hwX7_next_3 : (.fieldLink RX7 15 "FortyBelts$Reader" "fed" "I" : Cond) ∈ wsX7_next := (List.mem_cons_of_mem _ (List.mem_append_left _ (List.mem_append_left _ (List.mem_of_getElem? (i := 1) rfl))))
theorem hwX7_next_4 : (.fieldLink RX7 11 "FortyBelts$Reader" "tape" "[I" : Cond) ∈ wsX7_next := (List.mem_cons_of_mem _ (List.mem_append_left _ (List.mem_append_left _ (List.mem_of_getElem? (i := 2) rfl))))
theorem hcX7_next_X7 : ∀ w ∈ wsX70, w ∈ wsX7_next := fun _ h => (List.mem_cons_of_mem _ (List.mem_append_right _ h))
set_option maxHeartbeats 4000000 in
set_option maxRecDepth 100000 in
theorem J_X7_next {D : va_G} {KA : Nat → ClassId} {zs : ZS} {ad : Nat → Nat} {ids : List Nat} {sz : Nat} (l : Launch) (hI : ∀ c, n7 c → c ∈ ids) {st : Nat → Nat → Option Nat} (hst : ∀ c, n7 c → st c = stX c)   {σ : St} {post : St → Prop} (h : wX7_next ids  σ post) : Met l yX7_next wsX7_next rmX7_next (va_Pc [.ref (ad 2)] (xIn D KA zs layX st ad ids sz σ)) (va_Qv post (xOut D KA layX st ad ids) (xA ad ids sz)) 0 0 (xA ad ids sz) := by
  refine Met.ofW (cc := cX7_next) (maxL := 1) (ret := none) (by decide) rfl ?_
  intro p e s m args below meth c s₁ B hml hv
  obtain ⟨hav, hsz, hK, hZ, hP, hD⟩ := hv
  have hx := B.exec
  have hb := B.bytes
  have hr := B.returns
  have hts := atoms_spec (ws := wsX7_next) B.pre
  have hown : s.vm.findClass RX7 = some m.cls := findClass_of_methodNamed B.named
  have hlocks := B.notSynchronized
  subst hsz
  have hA : ∀ q : Nat, s.heap.size ≤ q → xA ad ids s.heap.size q := fun q h => Or.inr h
  have hW : xW D KA layX st ad ids (xA ad ids s.heap.size) s.heap σ s.heap [] := ⟨hP, xA_D (D := D) hD, va_S.rf⟩
  have kr : ∀ (σ : St) (H : Heap) (locs : List Loc) (ls : Array Slot) (pc : Nat), xW D KA layX st ad ids (xA ad ids s.heap.size) s.heap σ H locs → post σ → decode cX7_next pc = .ok (.return_, 1) → W p l e rmX7_next s m args below meth c H locs 0 0 (MQ below (va_Qv post (xOut D KA layX st ad ids) (xA ad ids s.heap.size)) args s 0 0 (xA ad ids s.heap.size)) (F0 m pc ls []) := fun σ H locs ls pc hW h hd => x_vret hx hb hr hlocks hW h hd
  have hl := lv_entry ([.ref (ad 2)]) (n := 1) (Nat.le_of_ble_eq_true rfl)
  rw [show entryFrame m args 1 = entryFrame m ([.ref (ad 2)] : List Value).toArray 1 from by rw [hav]]
  rw [lg_entry_eq]
  generalize (lg_sl ([.ref (ad 2)]) ++ List.replicate (1 - (lg_sl ([.ref (ad 2)])).length) Slot.unset).toArray = ls at hl ⊢
  have hl : lv_has ls 1 [(0, .ref (ad 2))] := hl
  show W p l e rmX7_next s m args below meth c s.heap [] 0 0 _ _
  generalize MQ below (va_Qv post (xOut D KA layX st ad ids) (xA ad ids s.heap.size)) args s 0 0 (xA ad ids s.heap.size) = Q at kr ⊢
  have blk168 : ∀ (σ : St) (H : Heap) (locs : List Loc) (ls : Array Slot), xW D KA layX st ad ids (xA ad ids s.heap.size) s.heap σ H locs → lv_has ls 1 [] → wX7_next_168 ids post  σ → W p l e rmX7_next s m args below meth c H locs 0 0 Q (F0 m 168 ls []) := by
    intro    σ H locs ls hW hl h
    unfold wX7_next_168 at h
    exact kr _ _ _ _ _ hW h dX7_next_168
  have blk155 : ∀ (s1 : Int32) (σ : St) (H : Heap) (locs : List Loc) (ls : Array Slot), xW D KA layX st ad ids (xA ad ids s.heap.size) s.heap σ H locs → lv_has ls 1 [(0, .ref (ad 2))] → wX7_next_155 ids post s1 σ → W p l e rmX7_next s m args below meth c H locs 0 0 Q (F0 m 155 ls [.int s1, .ref (ad 2)]) := by
    intro   s1 σ H locs ls hW hl h
    unfold wX7_next_155 at h
    refine xpX7_3 hx hb hts hown hK hW 2 hcX7_next_X7 (hI 2 (by decide)) lX_2 (hts _ hwX7_next_0) dX7_next_155 (fun σ1 H locs hσ1 hW => ?_)
    have h := h σ1 hσ1
    refine lv_aload_n hx hb dX7_next_158 rfl (lv_at hl 0 rfl) ?_
    refine lv_dup hx hb dX7_next_159 rfl ?_
    refine xgX7_2 hx hb hts hown hK hW 2 hcX7_next_X7 (hI 2 (by decide)) lX_2 (hts _ hwX7_next_1) dX7_next_160 ?_
    refine lv_iconst (v := 1) hx hb dX7_next_163 (by decide) ?_
    refine lv_iadd hx hb dX7_next_164 ?_
    refine xpX7_2 hx hb hts hown hK hW 2 hcX7_next_X7 (hI 2 (by decide)) lX_2 (hts _ hwX7_next_1) dX7_next_165 (fun σ2 H locs hσ2 hW => ?_)
    have h := h σ2 hσ2
    exact blk168    _ _ _ _ hW (lv_sub hl [] rfl) h
  have blk52 : ∀ (σ : St) (H : Heap) (locs : List Loc) (ls : Array Slot), xW D KA layX st ad ids (xA ad ids s.heap.size) s.heap σ H locs → lv_has ls 1 [(0, .ref (ad 2))] → wX7_next_52 ids post  σ → W p l e rmX7_next s m args below meth c H locs 0 0 Q (F0 m 52 ls []) := by
    intro    σ H locs ls hW hl h
    unfold wX7_next_52 at h
    refine lv_aload_n hx hb dX7_next_52 rfl (lv_at hl 0 rfl) ?_
    refine lv_aload_n hx hb dX7_next_53 rfl (lv_at hl 0 rfl) ?_
    refine xgX7_2 hx hb hts hown hK hW 2 hcX7_next_X7 (hI 2 (by decide)) lX_2 (hts _ hwX7_next_1) dX7_next_54 ?_
    refine xpX7_4 hx hb hts hown hK hW 2 hcX7_next_X7 (hI 2 (by decide)) lX_2 (hts _ hwX7_next_2) dX7_next_57 (fun σ3 H locs hσ3 hW => ?_)
    have h := h σ3 hσ3
    refine lv_aload_n hx hb dX7_next_60 rfl (lv_at hl 0 rfl) ?_
    refine xgX7_2 hx hb hts hown hK hW 2 hcX7_next_X7 (hI 2 (by decide)) lX_2 (hts _ hwX7_next_1) dX7_next_61 ?_
    refine lv_aload_n hx hb dX7_next_64 rfl (lv_at hl 0 rfl) ?_
    refine xgX7_1 hx hb hts hown hK hW 2 hcX7_next_X7 (hI 2 (by decide)) lX_2 (hts _ hwX7_next_3) dX7_next_65 ?_
    refine lv_icmp_lt (tgt := 79) hx hb dX7_next_68 (by decide) (fun c4 => ?_) (fun c4 => ?_)
    · have h := h.1 c4
      refine lv_aload_n hx hb dX7_next_79 rfl (lv_at hl 0 rfl) ?_
      refine xgX7_0r hx hb hts hown hK hW 2 hcX7_next_X7 (hI 2 (by decide)) lX_2 (hts _ hwX7_next_4) (s7_2_0 hst _) dX7_next_80 ?_
      refine lv_aload_n hx hb dX7_next_83 rfl (lv_at hl 0 rfl) ?_
      refine xgX7_2 hx hb hts hown hK hW 2 hcX7_next_X7 (hI 2 (by decide)) lX_2 (hts _ hwX7_next_1) dX7_next_84 ?_
      obtain ⟨hi5, h⟩ := h
      refine x_iald hx hb hK hW 13 (hI 13 (by decide)) lX_13 hi5 dX7_next_87 ?_
      refine x_calli (va_runS (As := [.int (gI σ3 13 (gI σ3 2 2).toNatClampNeg)]) (rest := []) ⟨hx, hb, hml, hown, hts⟩ (J_X7_isDigit l hI hst h) (va_cwS 1 hts gX7_next_X7_isDigit rfl rfl rfl hdS_X7_isDigit ⟨Nat.le_of_ble_eq_true rfl, Nat.le_of_ble_eq_true rfl⟩) (x_preS hK hZ hA hW) rfl rfl hl.1 rfl (lv_room (Nat.le_of_ble_eq_true rfl)) dX7_next_88 ⟨Nat.zero_le _, Nat.zero_le _⟩) hW hA (fun r7 σ6 H locs h hW => ?_)
      try dsimp only at h
      refine lv_if_eq (tgt := 101) hx hb dX7_next_91 (by decide) (fun c8 => ?_) (fun c8 => ?_)
      · have h := h.1 c8
        refine lv_aload_n hx hb dX7_next_101 rfl (lv_at hl 0 rfl) ?_
        refine xgX7_0r hx hb hts hown hK hW 2 hcX7_next_X7 (hI 2 (by decide)) lX_2 (hts _ hwX7_next_4) (s7_2_0 hst _) dX7_next_102 ?_
        refine lv_aload_n hx hb dX7_next_105 rfl (lv_at hl 0 rfl) ?_
        refine xgX7_2 hx hb hts hown hK hW 2 hcX7_next_X7 (hI 2 (by decide)) lX_2 (hts _ hwX7_next_1) dX7_next_106 ?_
        obtain ⟨hi9, h⟩ := h
        refine x_iald hx hb hK hW 13 (hI 13 (by decide)) lX_13 hi9 dX7_next_109 ?_
        refine x_calli (va_runS (As := [.int (gI σ6 13 (gI σ6 2 2).toNatClampNeg)]) (rest := []) ⟨hx, hb, hml, hown, hts⟩ (J_X7_isLetter l hI hst h) (va_cwS 1 hts gX7_next_X7_isLetter rfl rfl rfl hdS_X7_isLetter ⟨Nat.le_of_ble_eq_true rfl, Nat.le_of_ble_eq_true rfl⟩) (x_preS hK hZ hA hW) rfl rfl hl.1 rfl (lv_room (Nat.le_of_ble_eq_true rfl)) dX7_next_110 ⟨Nat.zero_le _, Nat.zero_le _⟩) hW hA (fun r11 σ10 H locs h hW => ?_)
        try dsimp only at h
        refine lv_if_eq (tgt := 123) hx hb dX7_next_113 (by decide) (fun c12 => ?_) (fun c12 => ?_)
        · have h := h.1 c12
          refine lv_aload_n hx hb dX7_next_123 rfl (lv_at hl 0 rfl) ?_
          refine va_ldcS hx hb hown hZ.2.2.2.2.1 dX7_next_124 ?_
          refine lv_aload_n hx hb dX7_next_126 rfl (lv_at hl 0 rfl) ?_
          refine xgX7_0r hx hb hts hown hK hW 2 hcX7_next_X7 (hI 2 (by decide)) lX_2 (hts _ hwX7_next_4) (s7_2_0 hst _) dX7_next_127 ?_
          refine lv_aload_n hx hb dX7_next_130 rfl (lv_at hl 0 rfl) ?_
          refine xgX7_2 hx hb hts hown hK hW 2 hcX7_next_X7 (hI 2 (by decide)) lX_2 (hts _ hwX7_next_1) dX7_next_131 ?_
          obtain ⟨hi13, h⟩ := h
          refine x_iald hx hb hK hW 13 (hI 13 (by decide)) lX_13 hi13 dX7_next_134 ?_
          refine lv_i2c hx hb dX7_next_135 rfl ?_
          obtain ⟨ha14, h⟩ := h
          refine xs_calli (va_runV (As := [.int (((gI σ10 13 (gI σ10 2 2).toNatClampNeg).toUInt32 % 65536).toInt32)]) (rest := [.ref (ad 2)]) ⟨hx, hb, hml, hown, hts⟩ (J_J0_indexOf_0f7a4 (post := fun r => r = (xIx 1 (((gI σ10 13 (gI σ10 2 2).toNatClampNeg).toUInt32 % 65536).toInt32).toInt8.toInt32 8 0)) l 1 (((gI σ10 13 (gI σ10 2 2).toNatClampNeg).toUInt32 % 65536).toInt32) (by decide) ha14 rfl) (cwV 1 hts gX7_next_J0_indexOf_0f7a4 rfl rfl rfl (by decide +kernel) ⟨Nat.le_of_ble_eq_true rfl, Nat.le_of_ble_eq_true rfl⟩) (xs_preV hZ hW.2.2 hA 1 (by decide)) rfl rfl hl.1 rfl (lv_room (Nat.le_of_ble_eq_true rfl)) dX7_next_136 ⟨Nat.le_of_ble_eq_true rfl, Nat.le_of_ble_eq_true rfl⟩) (fun r15 hr15 => ?_)
          subst hr15
          refine lv_if_lt (tgt := 154) hx hb dX7_next_139 (by decide) (fun c16 => ?_) (fun c16 => ?_)
          · have h := h.1 c16
            refine lv_iconst (v := 1) hx hb dX7_next_154 (by decide) ?_
            exact blk155   (1 : Int32) _ _ _ _ hW (lv_sub hl [0] rfl) h
          · have h := h.2 c16
            refine lv_aload_n hx hb dX7_next_142 rfl (lv_at hl 0 rfl) ?_
            refine xgX7_0r hx hb hts hown hK hW 2 hcX7_next_X7 (hI 2 (by decide)) lX_2 (hts _ hwX7_next_4) (s7_2_0 hst _) dX7_next_143 ?_
            refine lv_aload_n hx hb dX7_next_146 rfl (lv_at hl 0 rfl) ?_
            refine xgX7_2 hx hb hts hown hK hW 2 hcX7_next_X7 (hI 2 (by decide)) lX_2 (hts _ hwX7_next_1) dX7_next_147 ?_
            refine x_iald hx hb hK hW 13 (hI 13 (by decide)) lX_13 hi13 dX7_next_150 ?_
            refine lv_goto (tgt := 155) hx hb dX7_next_151 (by decide) ?_
            exact blk155   (gI σ10 13 (gI σ10 2 2).toNatClampNeg) _ _ _ _ hW (lv_sub hl [0] rfl) h
        · have h := h.2 c12
          refine lv_aload_n hx hb dX7_next_116 rfl (lv_at hl 0 rfl) ?_
          refine x_callv (va_runV (As := []) (rest := []) ⟨hx, hb, hml, hown, hts⟩ (J_X7_nextWord l hI hst h) (cwV 0 hts gX7_next_X7_nextWord rfl rfl rfl hdV_X7_nextWord ⟨Nat.le_of_ble_eq_true rfl, Nat.le_of_ble_eq_true rfl⟩) (x_preV (ci := 7) hK hZ hA hW (hI 2 (by decide)) lX_2 rfl) rfl rfl hl.1 rfl (lv_room (Nat.le_of_ble_eq_true rfl)) dX7_next_117 ⟨Nat.zero_le _, Nat.zero_le _⟩) hW hA (fun σ18 H locs h hW => ?_)
          try dsimp only at h
          refine lv_goto (tgt := 168) hx hb dX7_next_120 (by decide) ?_
          exact blk168    _ _ _ _ hW (lv_sub hl [] rfl) h
      · have h := h.2 c8
        refine lv_aload_n hx hb dX7_next_94 rfl (lv_at hl 0 rfl) ?_
        refine x_callv (va_runV (As := []) (rest := []) ⟨hx, hb, hml, hown, hts⟩ (J_X7_nextNumber l hI hst h) (cwV 0 hts gX7_next_X7_nextNumber rfl rfl rfl hdV_X7_nextNumber ⟨Nat.le_of_ble_eq_true rfl, Nat.le_of_ble_eq_true rfl⟩) (x_preV (ci := 7) hK hZ hA hW (hI 2 (by decide)) lX_2 rfl) rfl rfl hl.1 rfl (lv_room (Nat.le_of_ble_eq_true rfl)) dX7_next_95 ⟨Nat.zero_le _, Nat.zero_le _⟩) hW hA (fun σ19 H locs h hW => ?_)
        try dsimp only at h
        refine lv_goto (tgt := 168) hx hb dX7_next_98 (by decide) ?_
        exact blk168    _ _ _ _ hW (lv_sub hl [] rfl) h
    · have h := h.2 c4
      refine lv_aload_n hx hb dX7_next_71 rfl (lv_at hl 0 rfl) ?_
      refine lv_iconst (v := 0) hx hb dX7_next_72 (by decide) ?_
      refine xpX7_3 hx hb hts hown hK hW 2 hcX7_next_X7 (hI 2 (by decide)) lX_2 (hts _ hwX7_next_0) dX7_next_73 (fun σ20 H locs hσ20 hW => ?_)
      have h := h σ20 hσ20
      refine lv_goto (tgt := 168) hx hb dX7_next_76 (by decide) ?_
      exact blk168    _ _ _ _ hW (lv_sub hl [] rfl) h
  have blk39 : ∀ (k0 : St → Prop) (hk0 : ∀ (σ : St) (H : Heap) (locs : List Loc) (ls : Array Slot), xW D KA layX st ad ids (xA ad ids s.heap.size) s.heap σ H locs → lv_has ls 1 [(0, .ref (ad 2))] → k0  σ → W p l e rmX7_next s m args below meth c H locs 0 0 Q (F0 m 0 ls []))  (σ : St) (H : Heap) (locs : List Loc) (ls : Array Slot), xW D KA layX st ad ids (xA ad ids s.heap.size) s.heap σ H locs → lv_has ls 1 [(0, .ref (ad 2))] → wX7_next_39 ids k0 post  σ → W p l e rmX7_next s m args below meth c H locs 0 0 Q (F0 m 39 ls []) := by
    intro  k0 hk0  σ H locs ls hW hl h
    unfold wX7_next_39 at h
    refine lv_aload_n hx hb dX7_next_39 rfl (lv_at hl 0 rfl) ?_
    refine lv_dup hx hb dX7_next_40 rfl ?_
    refine xgX7_2 hx hb hts hown hK hW 2 hcX7_next_X7 (hI 2 (by decide)) lX_2 (hts _ hwX7_next_1) dX7_next_41 ?_
    refine lv_iconst (v := 1) hx hb dX7_next_44 (by decide) ?_
    refine lv_iadd hx hb dX7_next_45 ?_
    refine xpX7_2 hx hb hts hown hK hW 2 hcX7_next_X7 (hI 2 (by decide)) lX_2 (hts _ hwX7_next_1) dX7_next_46 (fun σ21 H locs hσ21 hW => ?_)
    have h := h σ21 hσ21
    refine lv_goto (tgt := 0) hx hb dX7_next_49 (by decide) ?_
    exact hk0  _ _ _ _ hW (lv_sub hl [0] rfl) h
  have blk0 : ∀ (n : Nat)  (σ : St) (H : Heap) (locs : List Loc) (ls : Array Slot), xW D KA layX st ad ids (xA ad ids s.heap.size) s.heap σ H locs → lv_has ls 1 [(0, .ref (ad 2))] → wX7_next_0 ids post  n  σ → W p l e rmX7_next s m args below meth c H locs 0 0 Q (F0 m 0 ls []) := by
    intro    n
    induction n with
    | zero => intro  σ H locs ls hW hl h; exact (h : False).elim
    | succ n ih =>
      intro  σ H locs ls hW hl h
      have hk0 : ∀  (σ : St) (H : Heap) (locs : List Loc) (ls : Array Slot), xW D KA layX st ad ids (xA ad ids s.heap.size) s.heap σ H locs → lv_has ls 1 [(0, .ref (ad 2))] → (wX7_next_0 ids post  n)  σ → W p l e rmX7_next s m args below meth c H locs 0 0 Q (F0 m 0 ls []) := fun  σ H locs ls hW hl h => ih  σ H locs ls hW hl h
      rw [wX7_next_0_s] at h
      try dsimp only at h
      generalize wX7_next_0 ids post  n = k0 at h hk0
      refine lv_aload_n hx hb dX7_next_0 rfl (lv_at hl 0 rfl) ?_
      refine xgX7_2 hx hb hts hown hK hW 2 hcX7_next_X7 (hI 2 (by decide)) lX_2 (hts _ hwX7_next_1) dX7_next_1 ?_
      refine lv_aload_n hx hb dX7_next_4 rfl (lv_at hl 0 rfl) ?_
      refine xgX7_1 hx hb hts hown hK hW 2 hcX7_next_X7 (hI 2 (by decide)) lX_2 (hts _ hwX7_next_3) dX7_next_5 ?_
      refine lv_icmp_ge (tgt := 52) hx hb dX7_next_8 (by decide) (fun c22 => ?_) (fun c22 => ?_)
      · have h := h.1 c22
        exact blk52    _ _ _ _ hW (lv_sub hl [0] rfl) h
      · have h := h.2 c22
        refine lv_aload_n hx hb dX7_next_11 rfl (lv_at hl 0 rfl) ?_
        refine xgX7_0r hx hb hts hown hK hW 2 hcX7_next_X7 (hI 2 (by decide)) lX_2 (hts _ hwX7_next_4) (s7_2_0 hst _) dX7_next_12 ?_
        refine lv_aload_n hx hb dX7_next_15 rfl (lv_at hl 0 rfl) ?_
        refine xgX7_2 hx hb hts hown hK hW 2 hcX7_next_X7 (hI 2 (by decide)) lX_2 (hts _ hwX7_next_1) dX7_next_16 ?_
        obtain ⟨hi23, h⟩ := h
        refine x_iald hx hb hK hW 13 (hI 13 (by decide)) lX_13 hi23 dX7_next_19 ?_
        refine lv_bipush (v := 32) hx hb dX7_next_20 (by decide) ?_
        refine lv_icmp_eq (tgt := 39) hx hb dX7_next_22 (by decide) (fun c24 => ?_) (fun c24 => ?_)
        · have h := h.1 c24
          exact blk39  k0 hk0  _ _ _ _ hW (lv_sub hl [0] rfl) h
        · have h := h.2 c24
          refine lv_aload_n hx hb dX7_next_25 rfl (lv_at hl 0 rfl) ?_
          refine xgX7_0r hx hb hts hown hK hW 2 hcX7_next_X7 (hI 2 (by decide)) lX_2 (hts _ hwX7_next_4) (s7_2_0 hst _) dX7_next_26 ?_
          refine lv_aload_n hx hb dX7_next_29 rfl (lv_at hl 0 rfl) ?_
          refine xgX7_2 hx hb hts hown hK hW 2 hcX7_next_X7 (hI 2 (by decide)) lX_2 (hts _ hwX7_next_1) dX7_next_30 ?_
          refine x_iald hx hb hK hW 13 (hI 13 (by decide)) lX_13 hi23 dX7_next_33 ?_
          refine lv_bipush (v := 10) hx hb dX7_next_34 (by decide) ?_
          refine lv_icmp_ne (tgt := 52) hx hb dX7_next_36 (by decide) (fun c26 => ?_) (fun c26 => ?_)
          · have h := h.1 c26
            exact blk52    _ _ _ _ hW (lv_sub hl [0] rfl) h
          · have h := h.2 c26
            exact blk39  k0 hk0  _ _ _ _ hW (lv_sub hl [0] rfl) h
  have main : ∀ (H : Heap) (locs : List Loc) (ls : Array Slot), xW D KA layX st ad ids (xA ad ids s.heap.size) s.heap σ H locs → lv_has ls 1 [(0, .ref (ad 2))] → W p l e rmX7_next s m args below meth c H locs 0 0 Q (F0 m 0 ls []) := by
    intro H locs ls hW hl
    unfold wX7_next at h
    obtain ⟨n, h⟩ := h
    exact blk0    n  _ _ _ _ hW (lv_sub hl [0] rfl) h
  exact main _ _ _ hW hl
theorem hwX9_add_0 : (.fieldLink RX9 21 "FortyBelts$Text" "stepCount" "I" : Cond) ∈ wsX9_add := (List.mem_cons_of_mem _ (List.mem_append_left _ (List.mem_of_getElem? (i := 0) rfl)))
theorem hwX9_add_1 : (.fieldLink RX9 9 "FortyBelts$Text" "steps" "[I" : Cond) ∈ wsX9_add := (List.mem_cons_of_mem _ (List.mem_append_left _ (List.mem_of_getElem? (i := 1) rfl)))
theorem hcX9_add_X9 : ∀ w ∈ wsX90, w ∈ wsX9_add := fun _ h => (List.mem_cons_of_mem _ (List.mem_append_right _ h))
set_option maxHeartbeats 4000000 in
set_option maxRecDepth 100000 in
theorem J_X9_add {D : va_G} {KA : Nat → ClassId} {zs : ZS} {ad : Nat → Nat} {ids : List Nat} {sz : Nat} (l : Launch) (hI : ∀ c, n7 c → c ∈ ids) {st : Nat → Nat → Option Nat} (hst : ∀ c, n7 c → st c = stX c) {a0 : Nat} {a1 : Int32} (ok_a0 : okT ids a0) {σ : St} {post : St → Prop} (h : wX9_add ids a0 a1 σ post) : Met l yX9_add wsX9_add rmX9_add (va_Pc [.ref (ad a0), .int a1] (xIn D KA zs layX st ad ids sz σ)) (va_Qv post (xOut D KA layX st ad ids) (xA ad ids sz)) 0 0 (xA ad ids sz) := by
  refine Met.ofW (cc := cX9_add) (maxL := 2) (ret := none) (by decide) rfl ?_
  intro p e s m args below meth c s₁ B hml hv
  obtain ⟨hav, hsz, hK, hZ, hP, hD⟩ := hv
  have hx := B.exec
  have hb := B.bytes
  have hr := B.returns
  have hts := atoms_spec (ws := wsX9_add) B.pre
  have hown : s.vm.findClass RX9 = some m.cls := findClass_of_methodNamed B.named
  have hlocks := B.notSynchronized
  subst hsz
  have hA : ∀ q : Nat, s.heap.size ≤ q → xA ad ids s.heap.size q := fun q h => Or.inr h
  have hW : xW D KA layX st ad ids (xA ad ids s.heap.size) s.heap σ s.heap [] := ⟨hP, xA_D (D := D) hD, va_S.rf⟩
  have kr : ∀ (σ : St) (H : Heap) (locs : List Loc) (ls : Array Slot) (pc : Nat), xW D KA layX st ad ids (xA ad ids s.heap.size) s.heap σ H locs → post σ → decode cX9_add pc = .ok (.return_, 1) → W p l e rmX9_add s m args below meth c H locs 0 0 (MQ below (va_Qv post (xOut D KA layX st ad ids) (xA ad ids s.heap.size)) args s 0 0 (xA ad ids s.heap.size)) (F0 m pc ls []) := fun σ H locs ls pc hW h hd => x_vret hx hb hr hlocks hW h hd
  have hl := lv_entry ([.ref (ad a0), .int a1]) (n := 2) (Nat.le_of_ble_eq_true rfl)
  rw [show entryFrame m args 2 = entryFrame m ([.ref (ad a0), .int a1] : List Value).toArray 2 from by rw [hav]]
  rw [lg_entry_eq]
  generalize (lg_sl ([.ref (ad a0), .int a1]) ++ List.replicate (2 - (lg_sl ([.ref (ad a0), .int a1])).length) Slot.unset).toArray = ls at hl ⊢
  have hl : lv_has ls 2 [(0, .ref (ad a0)), (1, .int a1)] := hl
  show W p l e rmX9_add s m args below meth c s.heap [] 0 0 _ _
  generalize MQ below (va_Qv post (xOut D KA layX st ad ids) (xA ad ids s.heap.size)) args s 0 0 (xA ad ids s.heap.size) = Q at kr ⊢
  have blk32 : ∀ (σ : St) (H : Heap) (locs : List Loc) (ls : Array Slot), xW D KA layX st ad ids (xA ad ids s.heap.size) s.heap σ H locs → lv_has ls 2 [] → wX9_add_32 ids post  σ → W p l e rmX9_add s m args below meth c H locs 0 0 Q (F0 m 32 ls []) := by
    intro    σ H locs ls hW hl h
    unfold wX9_add_32 at h
    exact kr _ _ _ _ _ hW h dX9_add_32
  have main : ∀ (H : Heap) (locs : List Loc) (ls : Array Slot), xW D KA layX st ad ids (xA ad ids s.heap.size) s.heap σ H locs → lv_has ls 2 [(0, .ref (ad a0)), (1, .int a1)] → W p l e rmX9_add s m args below meth c H locs 0 0 Q (F0 m 0 ls []) := by
    intro H locs ls hW hl
    unfold wX9_add at h
    refine lv_aload_n hx hb dX9_add_0 rfl (lv_at hl 0 rfl) ?_
    refine xgX9_1 hx hb hts hown hK hW a0 hcX9_add_X9 ok_a0.1 (lay_okT ok_a0) (hts _ hwX9_add_0) dX9_add_1 ?_
    refine lv_aload_n hx hb dX9_add_4 rfl (lv_at hl 0 rfl) ?_
    refine xgX9_0r hx hb hts hown hK hW a0 hcX9_add_X9 ok_a0.1 (lay_okT ok_a0) (hts _ hwX9_add_1) (s7_okT1 hst ok_a0) dX9_add_5 ?_
    refine x_alen hx hb hK hW (a0 + 1) (hI _ (okT_n1 ok_a0)) (lay_okT1 ok_a0) dX9_add_8 ?_
    refine lv_icmp_ge (tgt := 32) hx hb dX9_add_9 (by decide) (fun c1001 => ?_) (fun c1001 => ?_)
    · have h := h.1 c1001
      exact blk32    _ _ _ _ hW (lv_sub hl [] rfl) h
    · have h := h.2 c1001
      refine lv_aload_n hx hb dX9_add_12 rfl (lv_at hl 0 rfl) ?_
      refine xgX9_0r hx hb hts hown hK hW a0 hcX9_add_X9 ok_a0.1 (lay_okT ok_a0) (hts _ hwX9_add_1) (s7_okT1 hst ok_a0) dX9_add_13 ?_
      refine lv_aload_n hx hb dX9_add_16 rfl (lv_at hl 0 rfl) ?_
      refine xgX9_1 hx hb hts hown hK hW a0 hcX9_add_X9 ok_a0.1 (lay_okT ok_a0) (hts _ hwX9_add_0) dX9_add_17 ?_
      refine lv_iload_n hx hb dX9_add_20 rfl (lv_at hl 1 rfl) ?_
      obtain ⟨hi1002, h⟩ := h
      refine x_iast hx hb hK hW (a0 + 1) (hI _ (okT_n1 ok_a0)) (lay_okT1 ok_a0) hi1002 dX9_add_21 (fun σ1003 H locs hσ1003 hW => ?_)
      have h := h σ1003 hσ1003
      refine lv_aload_n hx hb dX9_add_22 rfl (lv_at hl 0 rfl) ?_
      refine lv_dup hx hb dX9_add_23 rfl ?_
      refine xgX9_1 hx hb hts hown hK hW a0 hcX9_add_X9 ok_a0.1 (lay_okT ok_a0) (hts _ hwX9_add_0) dX9_add_24 ?_
      refine lv_iconst (v := 1) hx hb dX9_add_27 (by decide) ?_
      refine lv_iadd hx hb dX9_add_28 ?_
      refine xpX9_1 hx hb hts hown hK hW a0 hcX9_add_X9 ok_a0.1 (lay_okT ok_a0) (hts _ hwX9_add_0) dX9_add_29 (fun σ1004 H locs hσ1004 hW => ?_)
      have h := h σ1004 hσ1004
      exact blk32    _ _ _ _ hW (lv_sub hl [] rfl) h
  exact main _ _ _ hW hl
set_option maxHeartbeats 4000000 in
set_option maxRecDepth 100000 in
theorem J_X9_addSign {D : va_G} {KA : Nat → ClassId} {zs : ZS} {ad : Nat → Nat} {ids : List Nat} {sz : Nat} (l : Launch) (hI : ∀ c, n7 c → c ∈ ids) {st : Nat → Nat → Option Nat} (hst : ∀ c, n7 c → st c = stX c) {a0 : Nat} {a1 : Int32} (ok_a0 : okT ids a0) {σ : St} {post : St → Prop} (h : wX9_addSign ids a0 a1 σ post) : Met l yX9_addSign wsX9_addSign rmX9_addSign (va_Pc [.ref (ad a0), .int a1] (xIn D KA zs layX st ad ids sz σ)) (va_Qv post (xOut D KA layX st ad ids) (xA ad ids sz)) 0 0 (xA ad ids sz) := by
  refine Met.ofW (cc := cX9_addSign) (maxL := 2) (ret := none) (by decide) rfl ?_
  intro p e s m args below meth c s₁ B hml hv
  obtain ⟨hav, hsz, hK, hZ, hP, hD⟩ := hv
  have hx := B.exec
  have hb := B.bytes
  have hr := B.returns
  have hts := atoms_spec (ws := wsX9_addSign) B.pre
  have hown : s.vm.findClass RX9 = some m.cls := findClass_of_methodNamed B.named
  have hlocks := B.notSynchronized
  subst hsz
  have hA : ∀ q : Nat, s.heap.size ≤ q → xA ad ids s.heap.size q := fun q h => Or.inr h
  have hW : xW D KA layX st ad ids (xA ad ids s.heap.size) s.heap σ s.heap [] := ⟨hP, xA_D (D := D) hD, va_S.rf⟩
  have kr : ∀ (σ : St) (H : Heap) (locs : List Loc) (ls : Array Slot) (pc : Nat), xW D KA layX st ad ids (xA ad ids s.heap.size) s.heap σ H locs → post σ → decode cX9_addSign pc = .ok (.return_, 1) → W p l e rmX9_addSign s m args below meth c H locs 0 0 (MQ below (va_Qv post (xOut D KA layX st ad ids) (xA ad ids s.heap.size)) args s 0 0 (xA ad ids s.heap.size)) (F0 m pc ls []) := fun σ H locs ls pc hW h hd => x_vret hx hb hr hlocks hW h hd
  have hl := lv_entry ([.ref (ad a0), .int a1]) (n := 2) (Nat.le_of_ble_eq_true rfl)
  rw [show entryFrame m args 2 = entryFrame m ([.ref (ad a0), .int a1] : List Value).toArray 2 from by rw [hav]]
  rw [lg_entry_eq]
  generalize (lg_sl ([.ref (ad a0), .int a1]) ++ List.replicate (2 - (lg_sl ([.ref (ad a0), .int a1])).length) Slot.unset).toArray = ls at hl ⊢
  have hl : lv_has ls 2 [(0, .ref (ad a0)), (1, .int a1)] := hl
  show W p l e rmX9_addSign s m args below meth c s.heap [] 0 0 _ _
  generalize MQ below (va_Qv post (xOut D KA layX st ad ids) (xA ad ids s.heap.size)) args s 0 0 (xA ad ids s.heap.size) = Q at kr ⊢
  have main : ∀ (H : Heap) (locs : List Loc) (ls : Array Slot), xW D KA layX st ad ids (xA ad ids s.heap.size) s.heap σ H locs → lv_has ls 2 [(0, .ref (ad a0)), (1, .int a1)] → W p l e rmX9_addSign s m args below meth c H locs 0 0 Q (F0 m 0 ls []) := by
    intro H locs ls hW hl
    unfold wX9_addSign at h
    refine lv_aload_n hx hb dX9_addSign_0 rfl (lv_at hl 0 rfl) ?_
    refine lv_iload_n hx hb dX9_addSign_1 rfl (lv_at hl 1 rfl) ?_
    refine lv_ineg hx hb dX9_addSign_2 ?_
    refine x_callv (va_runV (As := [.int (-a1)]) (rest := []) ⟨hx, hb, hml, hown, hts⟩ (J_X9_add l hI hst ok_a0 h) (cwV 1 hts gX9_addSign_X9_add rfl rfl rfl hdV_X9_add ⟨Nat.le_of_ble_eq_true rfl, Nat.le_of_ble_eq_true rfl⟩) (x_preV (ci := 9) hK hZ hA hW ok_a0.1 (lay_okT ok_a0) rfl) rfl rfl hl.1 rfl (lv_room (Nat.le_of_ble_eq_true rfl)) dX9_addSign_3 ⟨Nat.zero_le _, Nat.zero_le _⟩) hW hA (fun σ1001 H locs h hW => ?_)
    try dsimp only at h
    exact kr _ _ _ _ _ hW h dX9_addSign_6
  exact main _ _ _ hW hl
theorem hwX7_readEither_0 : (.fieldLink RX7 38 "FortyBelts$Reader" "token" "I" : Cond) ∈ wsX7_readEither := (List.mem_cons_of_mem _ (List.mem_append_left _ (List.mem_append_left _ (List.mem_append_left _ (List.mem_of_getElem? (i := 0) rfl)))))
theorem hwX7_readEither_1 : (.fieldLink RX7 19 "FortyBelts$Reader" "text" "LFortyBelts$Text;" : Cond) ∈ wsX7_readEither := (List.mem_cons_of_mem _ (List.mem_append_left _ (List.mem_append_left _ (List.mem_append_left _ (List.mem_of_getElem? (i := 1) rfl)))))
theorem hcX7_readEither_X7 : ∀ w ∈ wsX70, w ∈ wsX7_readEither := fun _ h => (List.mem_cons_of_mem _ (List.mem_append_left _ (List.mem_append_right _ h)))
set_option maxHeartbeats 4000000 in
set_option maxRecDepth 100000 in
theorem JO_X7_readEither {D : va_G} {KA : Nat → ClassId} {zs : ZS} {ad : Nat → Nat} {ids : List Nat} {sz : Nat} (l : Launch) (hI : ∀ c, n7 c → c ∈ ids) {st : Nat → Nat → Option Nat} (hst : ∀ c, n7 c → st c = stX c) (d : Nat) {rec : Nat → Int32 → St → (Int32 → St → Prop) → Prop} (hrec0 : ∀ {a1 : Int32} {σ : St} {post : Int32 → St → Prop} {sz : Nat}, rec 0 a1 σ post → Met l yX7_readEither wsX7_readEither (rmgX d) (va_Pc [.ref (ad 2), .int a1] (xIn D KA zs layX st ad ids sz σ)) (va_Qi post (xOut D KA layX st ad ids) (xA ad ids sz)) 0 0 (xA ad ids sz)) (hrec1 : ∀ {a1 : Int32} {σ : St} {post : Int32 → St → Prop} {sz : Nat}, rec 1 a1 σ post → Met l yX7_readBoth wsX7_readBoth (rmgX d) (va_Pc [.ref (ad 2), .int a1] (xIn D KA zs layX st ad ids sz σ)) (va_Qi post (xOut D KA layX st ad ids) (xA ad ids sz)) 0 0 (xA ad ids sz)) (hrec2 : ∀ {a1 : Int32} {σ : St} {post : Int32 → St → Prop} {sz : Nat}, rec 2 a1 σ post → Met l yX7_readNot wsX7_readNot (rmgX d) (va_Pc [.ref (ad 2), .int a1] (xIn D KA zs layX st ad ids sz σ)) (va_Qi post (xOut D KA layX st ad ids) (xA ad ids sz)) 0 0 (xA ad ids sz)) (hrec3 : ∀ {a1 : Int32} {σ : St} {post : Int32 → St → Prop} {sz : Nat}, rec 3 a1 σ post → Met l yX7_readCompared wsX7_readCompared (rmgX d) (va_Pc [.ref (ad 2), .int a1] (xIn D KA zs layX st ad ids sz σ)) (va_Qi post (xOut D KA layX st ad ids) (xA ad ids sz)) 0 0 (xA ad ids sz)) (hrec4 : ∀ {a1 : Int32} {σ : St} {post : Int32 → St → Prop} {sz : Nat}, rec 4 a1 σ post → Met l yX7_readSum wsX7_readSum (rmgX d) (va_Pc [.ref (ad 2), .int a1] (xIn D KA zs layX st ad ids sz σ)) (va_Qi post (xOut D KA layX st ad ids) (xA ad ids sz)) 0 0 (xA ad ids sz)) (hrec5 : ∀ {a1 : Int32} {σ : St} {post : Int32 → St → Prop} {sz : Nat}, rec 5 a1 σ post → Met l yX7_readTerm wsX7_readTerm (rmgX d) (va_Pc [.ref (ad 2), .int a1] (xIn D KA zs layX st ad ids sz σ)) (va_Qi post (xOut D KA layX st ad ids) (xA ad ids sz)) 0 0 (xA ad ids sz)) (hrec6 : ∀ {a1 : Int32} {σ : St} {post : Int32 → St → Prop} {sz : Nat}, rec 6 a1 σ post → Met l yX7_readOne wsX7_readOne (rmgX d) (va_Pc [.ref (ad 2), .int a1] (xIn D KA zs layX st ad ids sz σ)) (va_Qi post (xOut D KA layX st ad ids) (xA ad ids sz)) 0 0 (xA ad ids sz)) (hrec7 : ∀ {a1 : Int32} {σ : St} {post : Int32 → St → Prop} {sz : Nat}, rec 7 a1 σ post → Met l yX7_readNegated wsX7_readNegated (rmgX d) (va_Pc [.ref (ad 2), .int a1] (xIn D KA zs layX st ad ids sz σ)) (va_Qi post (xOut D KA layX st ad ids) (xA ad ids sz)) 0 0 (xA ad ids sz)) (hrec8 : ∀ {a1 : Int32} {σ : St} {post : Int32 → St → Prop} {sz : Nat}, rec 8 a1 σ post → Met l yX7_readBracketed wsX7_readBracketed (rmgX d) (va_Pc [.ref (ad 2), .int a1] (xIn D KA zs layX st ad ids sz σ)) (va_Qi post (xOut D KA layX st ad ids) (xA ad ids sz)) 0 0 (xA ad ids sz)) {a1 : Int32}  {σ : St} {post : Int32 → St → Prop} (h : wX7_readEither rec ids a1 σ post) : Met l yX7_readEither wsX7_readEither (rmgX (d + 1)) (va_Pc [.ref (ad 2), .int a1] (xIn D KA zs layX st ad ids sz σ)) (va_Qi post (xOut D KA layX st ad ids) (xA ad ids sz)) 0 0 (xA ad ids sz) := by
  refine Met.ofW (cc := cX7_readEither) (maxL := 4) (ret := (some .boolean)) (by decide) rfl ?_
  intro p e s m args below meth c s₁ B hml hv
  obtain ⟨hav, hsz, hK, hZ, hP, hD⟩ := hv
  have hx := B.exec
  have hb := B.bytes
  have hr := B.returns
  have hts := atoms_spec (ws := wsX7_readEither) B.pre
  have hown : s.vm.findClass RX7 = some m.cls := findClass_of_methodNamed B.named
  have hlocks := B.notSynchronized
  subst hsz
  have hA : ∀ q : Nat, s.heap.size ≤ q → xA ad ids s.heap.size q := fun q h => Or.inr h
  have hW : xW D KA layX st ad ids (xA ad ids s.heap.size) s.heap σ s.heap [] := ⟨hP, xA_D (D := D) hD, va_S.rf⟩
  have kr : ∀ (v : Int32) (σ : St) (H : Heap) (locs : List Loc) (ls : Array Slot) (pc : Nat), xW D KA layX st ad ids (xA ad ids s.heap.size) s.heap σ H locs → isB v → post v σ → decode cX7_readEither pc = .ok (.ireturn, 1) → W p l e (rmgX (d + 1)) s m args below meth c H locs 0 0 (MQ below (va_Qi post (xOut D KA layX st ad ids) (xA ad ids s.heap.size)) args s 0 0 (xA ad ids s.heap.size)) (F0 m pc ls [.int v]) := fun v σ H locs ls pc hW hz h hd => x_zret hx hb hr hlocks hW hz h hd
  have hl := lv_entry ([.ref (ad 2), .int a1]) (n := 4) (Nat.le_of_ble_eq_true rfl)
  rw [show entryFrame m args 4 = entryFrame m ([.ref (ad 2), .int a1] : List Value).toArray 4 from by rw [hav]]
  rw [lg_entry_eq]
  generalize (lg_sl ([.ref (ad 2), .int a1]) ++ List.replicate (4 - (lg_sl ([.ref (ad 2), .int a1])).length) Slot.unset).toArray = ls at hl ⊢
  have hl : lv_has ls 4 [(0, .ref (ad 2)), (1, .int a1)] := hl
  show W p l e (rmgX (d + 1)) s m args below meth c s.heap [] 0 0 _ _
  generalize MQ below (va_Qi post (xOut D KA layX st ad ids) (xA ad ids s.heap.size)) args s 0 0 (xA ad ids s.heap.size) = Q at kr ⊢
  have blk53 : ∀ (x2 : Int32) (σ : St) (H : Heap) (locs : List Loc) (ls : Array Slot), xW D KA layX st ad ids (xA ad ids s.heap.size) s.heap σ H locs → lv_has ls 4 [(2, .int x2)] → wX7_readEither_53 rec ids post x2 σ → W p l e (rmgX (d + 1)) s m args below meth c H locs 0 0 Q (F0 m 53 ls []) := by
    intro   x2 σ H locs ls hW hl h
    unfold wX7_readEither_53 at h
    refine lv_iload_n hx hb dX7_readEither_53 rfl (lv_at hl 0 rfl) ?_
    obtain ⟨hz1, h⟩ := h
    exact kr _ _ _ _ _ _ hW hz1 h dX7_readEither_54
  have blk8 : ∀ (x1 : Int32) (n : Nat) (x2 : Int32) (x3 : Int32) (σ : St) (H : Heap) (locs : List Loc) (ls : Array Slot), xW D KA layX st ad ids (xA ad ids s.heap.size) s.heap σ H locs → lv_has ls 4 [(0, .ref (ad 2)), (1, .int x1), (2, .int x2), (3, .int x3)] → wX7_readEither_8 rec ids post x1 n x2 x3 σ → W p l e (rmgX (d + 1)) s m args below meth c H locs 0 0 Q (F0 m 8 ls []) := by
    intro   x1 n
    induction n with
    | zero => intro x2 x3 σ H locs ls hW hl h; exact (h : False).elim
    | succ n ih =>
      intro x2 x3 σ H locs ls hW hl h
      have hk8 : ∀ (x2 : Int32) (x3 : Int32) (σ : St) (H : Heap) (locs : List Loc) (ls : Array Slot), xW D KA layX st ad ids (xA ad ids s.heap.size) s.heap σ H locs → lv_has ls 4 [(0, .ref (ad 2)), (1, .int x1), (2, .int x2), (3, .int x3)] → (wX7_readEither_8 rec ids post x1 n) x2 x3 σ → W p l e (rmgX (d + 1)) s m args below meth c H locs 0 0 Q (F0 m 8 ls []) := fun x2 x3 σ H locs ls hW hl h => ih x2 x3 σ H locs ls hW hl h
      rw [wX7_readEither_8_s] at h
      try dsimp only at h
      generalize wX7_readEither_8 rec ids post x1 n = k8 at h hk8
      refine lv_iload_n hx hb dX7_readEither_8 rfl (lv_at hl 3 rfl) ?_
      refine lv_sipush (v := 160) hx hb dX7_readEither_9 (by decide) ?_
      refine lv_icmp_ge (tgt := 53) hx hb dX7_readEither_12 (by decide) (fun c2 => ?_) (fun c2 => ?_)
      · have h := h.1 c2
        exact blk53   x2 _ _ _ _ hW (lv_sub hl [2] rfl) h
      · have h := h.2 c2
        refine lv_iload_n hx hb dX7_readEither_15 rfl (lv_at hl 2 rfl) ?_
        refine lv_if_eq (tgt := 53) hx hb dX7_readEither_16 (by decide) (fun c3 => ?_) (fun c3 => ?_)
        · have h := h.1 c3
          exact blk53   x2 _ _ _ _ hW (lv_sub hl [2] rfl) h
        · have h := h.2 c3
          refine lv_aload_n hx hb dX7_readEither_19 rfl (lv_at hl 0 rfl) ?_
          refine xgX7_3 hx hb hts hown hK hW 2 hcX7_readEither_X7 (hI 2 (by decide)) lX_2 (hts _ hwX7_readEither_0) dX7_readEither_20 ?_
          refine lv_bipush (v := 7) hx hb dX7_readEither_23 (by decide) ?_
          refine lv_icmp_ne (tgt := 53) hx hb dX7_readEither_25 (by decide) (fun c4 => ?_) (fun c4 => ?_)
          · have h := h.1 c4
            exact blk53   x2 _ _ _ _ hW (lv_sub hl [2] rfl) h
          · have h := h.2 c4
            refine lv_aload_n hx hb dX7_readEither_28 rfl (lv_at hl 0 rfl) ?_
            refine x_callv (va_runV (As := []) (rest := []) ⟨hx, hb, hml, hown, hts⟩ (J_X7_next l hI hst h) (cwV 0 hts gX7_readEither_X7_next rfl rfl rfl hdV_X7_next ⟨rmgX_of d (Nat.le_of_ble_eq_true rfl), rmgX_ol d (Nat.le_of_ble_eq_true rfl)⟩) (x_preV (ci := 7) hK hZ hA hW (hI 2 (by decide)) lX_2 rfl) rfl rfl hl.1 rfl (lv_room (Nat.le_of_ble_eq_true rfl)) dX7_readEither_29 ⟨Nat.zero_le _, Nat.zero_le _⟩) hW hA (fun σ5 H locs h hW => ?_)
            try dsimp only at h
            refine lv_aload_n hx hb dX7_readEither_32 rfl (lv_at hl 0 rfl) ?_
            refine lv_iload_n hx hb dX7_readEither_33 rfl (lv_at hl 1 rfl) ?_
            refine x_calli (va_runV (As := [.int x1]) (rest := []) ⟨hx, hb, hml, hown, hts⟩ (hrec1 h) (cwV 1 hts gX7_readEither_X7_readBoth rfl rfl rfl hdV_X7_readBoth ⟨rmgX_f d, rmgX_l d (Nat.le_of_ble_eq_true rfl)⟩) (x_preV (ci := 7) hK hZ hA hW (hI 2 (by decide)) lX_2 rfl) rfl rfl hl.1 rfl (lv_room (Nat.le_of_ble_eq_true rfl)) dX7_readEither_34 ⟨Nat.zero_le _, Nat.zero_le _⟩) hW hA (fun r7 σ6 H locs h hW => ?_)
            try dsimp only at h
            refine lv_istore_n (lv' := [(2, .int r7), (0, .ref (ad 2)), (1, .int x1), (3, .int x3)]) hx hb dX7_readEither_37 rfl hl (by decide) rfl (fun ls hl => ?_)
            refine lv_aload_n hx hb dX7_readEither_38 rfl (lv_at hl 1 rfl) ?_
            obtain ⟨t8, hr9, ok10, h⟩ := h
            refine xgX7_6r hx hb hts hown hK hW 2 hcX7_readEither_X7 (hI 2 (by decide)) lX_2 (hts _ hwX7_readEither_1) (s7_2_6 hst hr9) dX7_readEither_39 ?_
            refine lv_bipush (v := 124) hx hb dX7_readEither_42 (by decide) ?_
            refine x_callv (va_runV (As := [.int (124 : Int32)]) (rest := []) ⟨hx, hb, hml, hown, hts⟩ (J_X9_addSign l hI hst ok10 h) (cwV 1 hts gX7_readEither_X9_addSign rfl rfl rfl hdV_X9_addSign ⟨rmgX_of d (Nat.le_of_ble_eq_true rfl), rmgX_ol d (Nat.le_of_ble_eq_true rfl)⟩) (x_preV (ci := 9) hK hZ hA hW ok10.1 (lay_okT ok10) rfl) rfl rfl hl.1 rfl (lv_room (Nat.le_of_ble_eq_true rfl)) dX7_readEither_44 ⟨Nat.zero_le _, Nat.zero_le _⟩) hW hA (fun σ11 H locs h hW => ?_)
            try dsimp only at h
            obtain ⟨v12, hv12⟩ : ∃ y : Int32, y = x3 + (1 : Int32) := ⟨_, rfl⟩
            have h := h v12 hv12
            refine lv_iinc (v := v12) (lv' := [(3, .int v12), (2, .int r7), (0, .ref (ad 2)), (1, .int x1)]) hx hb dX7_readEither_47 hl (k := 3) rfl (by rw [hv12]; rfl) (by decide) rfl (fun ls hl => ?_)
            refine lv_goto (tgt := 8) hx hb dX7_readEither_50 (by decide) ?_
            exact hk8 r7 v12 _ _ _ _ hW (lv_sub hl [2, 3, 1, 0] rfl) h
  have main : ∀ (H : Heap) (locs : List Loc) (ls : Array Slot), xW D KA layX st ad ids (xA ad ids s.heap.size) s.heap σ H locs → lv_has ls 4 [(0, .ref (ad 2)), (1, .int a1)] → W p l e (rmgX (d + 1)) s m args below meth c H locs 0 0 Q (F0 m 0 ls []) := by
    intro H locs ls hW hl
    unfold wX7_readEither at h
    refine lv_aload_n hx hb dX7_readEither_0 rfl (lv_at hl 0 rfl) ?_
    refine lv_iload_n hx hb dX7_readEither_1 rfl (lv_at hl 1 rfl) ?_
    refine x_calli (va_runV (As := [.int a1]) (rest := []) ⟨hx, hb, hml, hown, hts⟩ (hrec1 h) (cwV 1 hts gX7_readEither_X7_readBoth rfl rfl rfl hdV_X7_readBoth ⟨rmgX_f d, rmgX_l d (Nat.le_of_ble_eq_true rfl)⟩) (x_preV (ci := 7) hK hZ hA hW (hI 2 (by decide)) lX_2 rfl) rfl rfl hl.1 rfl (lv_room (Nat.le_of_ble_eq_true rfl)) dX7_readEither_2 ⟨Nat.zero_le _, Nat.zero_le _⟩) hW hA (fun r1002 σ1001 H locs h hW => ?_)
    try dsimp only at h
    refine lv_istore_n (lv' := [(2, .int r1002), (0, .ref (ad 2)), (1, .int a1)]) hx hb dX7_readEither_5 rfl hl (by decide) rfl (fun ls hl => ?_)
    refine lv_iconst (v := 0) hx hb dX7_readEither_6 (by decide) ?_
    refine lv_istore_n (lv' := [(3, .int (0 : Int32)), (2, .int r1002), (0, .ref (ad 2)), (1, .int a1)]) hx hb dX7_readEither_7 rfl hl (by decide) rfl (fun ls hl => ?_)
    obtain ⟨n, h⟩ := h
    exact blk8   a1 n r1002 (0 : Int32) _ _ _ _ hW (lv_sub hl [2, 3, 1, 0] rfl) h
  exact main _ _ _ hW hl
