set_option maxHeartbeats 4000000 in
set_option maxRecDepth 100000 in
theorem J_X3_length {D : va_G} {KA : Nat → ClassId} {zs : ZS} {ad : Nat → Nat} {ids : List Nat} {sz : Nat} (l : Launch) (hI : ∀ c, c < 52 → c ∈ ids) {a0 : Nat} {a1 : Int32} (ok_a0 : okB ids a0) (hkap : a0 % 8 = 2) {σ : St} {post : Int32 → St → Prop} (h : wX3_length ids a0 a1 σ post) : Met l yX3_length wsX3_length rmX3_length (va_Pc [.ref (ad a0), .int a1] (xIn D KA zs layX stX ad ids sz σ)) (va_Qi post (xOut D KA layX stX ad ids) (xA ad ids sz)) 0 0 (xA ad ids sz) := by
  refine Met.ofW (cc := cX3_length) (maxL := 2) (ret := (some .int)) (by decide) rfl ?_
  intro p e s m args below meth c s₁ B hml hv
  obtain ⟨hav, hsz, hK, hZ, hP, hD⟩ := hv
  have hx := B.exec
  have hb := B.bytes
  have hr := B.returns
  have hts := atoms_spec (ws := wsX3_length) B.pre
  have hown : s.vm.findClass RX3 = some m.cls := findClass_of_methodNamed B.named
  have hlocks := B.notSynchronized
  subst hsz
  have hA : ∀ q : Nat, s.heap.size ≤ q → xA ad ids s.heap.size q := fun q h => Or.inr h
  have hW : xW D KA layX stX ad ids (xA ad ids s.heap.size) s.heap σ s.heap [] := ⟨hP, xA_D (D := D) hD, va_S.rf⟩
  have kr : ∀ (v : Int32) (σ : St) (H : Heap) (locs : List Loc) (ls : Array Slot) (pc : Nat), xW D KA layX stX ad ids (xA ad ids s.heap.size) s.heap σ H locs → post v σ → decode cX3_length pc = .ok (.ireturn, 1) → W p l e rmX3_length s m args below meth c H locs 0 0 (MQ below (va_Qi post (xOut D KA layX stX ad ids) (xA ad ids s.heap.size)) args s 0 0 (xA ad ids s.heap.size)) (F0 m pc ls [.int v]) := fun v σ H locs ls pc hW h hd => x_iret hx hb hr hlocks hW h hd
  have hl := lv_entry ([.ref (ad a0), .int a1]) (n := 2) (Nat.le_of_ble_eq_true rfl)
  rw [show entryFrame m args 2 = entryFrame m ([.ref (ad a0), .int a1] : List Value).toArray 2 from by rw [hav]]
  rw [lg_entry_eq]
  generalize (lg_sl ([.ref (ad a0), .int a1]) ++ List.replicate (2 - (lg_sl ([.ref (ad a0), .int a1])).length) Slot.unset).toArray = ls at hl ⊢
  have hl : lv_has ls 2 [(0, .ref (ad a0)), (1, .int a1)] := hl
  show W p l e rmX3_length s m args below meth c s.heap [] 0 0 _ _
  generalize MQ below (va_Qi post (xOut D KA layX stX ad ids) (xA ad ids s.heap.size)) args s 0 0 (xA ad ids s.heap.size) = Q at kr ⊢
  have main : ∀ (H : Heap) (locs : List Loc) (ls : Array Slot), xW D KA layX stX ad ids (xA ad ids s.heap.size) s.heap σ H locs → lv_has ls 2 [(0, .ref (ad a0)), (1, .int a1)] → W p l e rmX3_length s m args below meth c H locs 0 0 Q (F0 m 0 ls []) := by
    intro H locs ls hW hl
    unfold wX3_length at h
    refine lv_aload_n hx hb dX3_length_0 rfl (lv_at hl 0 rfl) ?_
    refine lv_iload_n hx hb dX3_length_1 rfl (lv_at hl 1 rfl) ?_
    have hr1001 : ∀ post : Int32 → St → Prop, wX0_plainLength ids a0 a1 σ post → va_Run p l e rmX3_length s m args below meth c H locs 0 0 0 0 (F0 m 2 ls ([.int a1].reverse ++ .ref (ad a0) :: [])) [] (va_Qi post (xOut D KA layX stX ad ids) (xA ad ids H.size) (Value.ref (ad a0) :: [.int a1]).toArray) (xA ad ids H.size) := by
      intro post h
      have hq := hkap
      · exact va_runU (As := [.int a1]) (rest := []) ⟨hx, hb, hml, hown, hts⟩ (J_X0_plainLength l hI ok_a0 h) (va_cwU 1 hts gX3_length_X0_plainLength_u11X3 rfl rfl rfl rfl (by decide +kernel) ⟨Nat.le_of_ble_eq_true rfl, Nat.le_of_ble_eq_true rfl⟩) (x_preV (ci := 3) hK hZ hA hW ok_a0.1 (lay_okB2 ok_a0 hq) rfl) rfl rfl hl.1 rfl (lv_room (Nat.le_of_ble_eq_true rfl)) dX3_length_2 ⟨Nat.zero_le _, Nat.zero_le _⟩
    refine x_calli (hr1001 _ h) hW hA (fun r1003 σ1002 H locs h hW => ?_)
    try dsimp only at h
    refine lv_bipush (v := 10) hx hb dX3_length_5 (by decide) ?_
    refine lv_iadd hx hb dX3_length_7 ?_
    exact kr _ _ _ _ _ _ hW h dX3_length_8
  exact main _ _ _ hW hl
set_option maxHeartbeats 4000000 in
set_option maxRecDepth 100000 in
theorem J_X4_length {D : va_G} {KA : Nat → ClassId} {zs : ZS} {ad : Nat → Nat} {ids : List Nat} {sz : Nat} (l : Launch) (hI : ∀ c, c < 52 → c ∈ ids) {a0 : Nat} {a1 : Int32} (ok_a0 : okB ids a0) (hkap : a0 % 8 = 4) {σ : St} {post : Int32 → St → Prop} (h : wX4_length ids a0 a1 σ post) : Met l yX4_length wsX4_length rmX4_length (va_Pc [.ref (ad a0), .int a1] (xIn D KA zs layX stX ad ids sz σ)) (va_Qi post (xOut D KA layX stX ad ids) (xA ad ids sz)) 0 0 (xA ad ids sz) := by
  refine Met.ofW (cc := cX4_length) (maxL := 2) (ret := (some .int)) (by decide) rfl ?_
  intro p e s m args below meth c s₁ B hml hv
  obtain ⟨hav, hsz, hK, hZ, hP, hD⟩ := hv
  have hx := B.exec
  have hb := B.bytes
  have hr := B.returns
  have hts := atoms_spec (ws := wsX4_length) B.pre
  have hown : s.vm.findClass RX4 = some m.cls := findClass_of_methodNamed B.named
  have hlocks := B.notSynchronized
  subst hsz
  have hA : ∀ q : Nat, s.heap.size ≤ q → xA ad ids s.heap.size q := fun q h => Or.inr h
  have hW : xW D KA layX stX ad ids (xA ad ids s.heap.size) s.heap σ s.heap [] := ⟨hP, xA_D (D := D) hD, va_S.rf⟩
  have kr : ∀ (v : Int32) (σ : St) (H : Heap) (locs : List Loc) (ls : Array Slot) (pc : Nat), xW D KA layX stX ad ids (xA ad ids s.heap.size) s.heap σ H locs → post v σ → decode cX4_length pc = .ok (.ireturn, 1) → W p l e rmX4_length s m args below meth c H locs 0 0 (MQ below (va_Qi post (xOut D KA layX stX ad ids) (xA ad ids s.heap.size)) args s 0 0 (xA ad ids s.heap.size)) (F0 m pc ls [.int v]) := fun v σ H locs ls pc hW h hd => x_iret hx hb hr hlocks hW h hd
  have hl := lv_entry ([.ref (ad a0), .int a1]) (n := 2) (Nat.le_of_ble_eq_true rfl)
  rw [show entryFrame m args 2 = entryFrame m ([.ref (ad a0), .int a1] : List Value).toArray 2 from by rw [hav]]
  rw [lg_entry_eq]
  generalize (lg_sl ([.ref (ad a0), .int a1]) ++ List.replicate (2 - (lg_sl ([.ref (ad a0), .int a1])).length) Slot.unset).toArray = ls at hl ⊢
  have hl : lv_has ls 2 [(0, .ref (ad a0)), (1, .int a1)] := hl
  show W p l e rmX4_length s m args below meth c s.heap [] 0 0 _ _
  generalize MQ below (va_Qi post (xOut D KA layX stX ad ids) (xA ad ids s.heap.size)) args s 0 0 (xA ad ids s.heap.size) = Q at kr ⊢
  have main : ∀ (H : Heap) (locs : List Loc) (ls : Array Slot), xW D KA layX stX ad ids (xA ad ids s.heap.size) s.heap σ H locs → lv_has ls 2 [(0, .ref (ad a0)), (1, .int a1)] → W p l e rmX4_length s m args below meth c H locs 0 0 Q (F0 m 0 ls []) := by
    intro H locs ls hW hl
    unfold wX4_length at h
    refine lv_aload_n hx hb dX4_length_0 rfl (lv_at hl 0 rfl) ?_
    refine lv_iload_n hx hb dX4_length_1 rfl (lv_at hl 1 rfl) ?_
    have hr1001 : ∀ post : Int32 → St → Prop, wX0_plainLength ids a0 a1 σ post → va_Run p l e rmX4_length s m args below meth c H locs 0 0 0 0 (F0 m 2 ls ([.int a1].reverse ++ .ref (ad a0) :: [])) [] (va_Qi post (xOut D KA layX stX ad ids) (xA ad ids H.size) (Value.ref (ad a0) :: [.int a1]).toArray) (xA ad ids H.size) := by
      intro post h
      have hq := hkap
      · exact va_runU (As := [.int a1]) (rest := []) ⟨hx, hb, hml, hown, hts⟩ (J_X0_plainLength l hI ok_a0 h) (va_cwU 1 hts gX4_length_X0_plainLength_u11X4 rfl rfl rfl rfl (by decide +kernel) ⟨Nat.le_of_ble_eq_true rfl, Nat.le_of_ble_eq_true rfl⟩) (x_preV (ci := 4) hK hZ hA hW ok_a0.1 (lay_okB4 ok_a0 hq) rfl) rfl rfl hl.1 rfl (lv_room (Nat.le_of_ble_eq_true rfl)) dX4_length_2 ⟨Nat.zero_le _, Nat.zero_le _⟩
    refine x_calli (hr1001 _ h) hW hA (fun r1003 σ1002 H locs h hW => ?_)
    try dsimp only at h
    exact kr _ _ _ _ _ _ hW h dX4_length_5
  exact main _ _ _ hW hl
theorem hwX6_apart_0 : (.fieldLink RX6 11 "FortyBelts$Mill" "places" "[I" : Cond) ∈ wsX6_apart := (List.mem_cons_of_mem _ (List.mem_append_left _ (List.mem_append_left _ (List.mem_append_left _ (List.mem_append_left _ (List.mem_append_left _ (List.mem_append_left _ (List.mem_append_left _ (List.mem_of_getElem? (i := 0) rfl)))))))))
theorem hwX6_apart_1 : (.fieldLink RX6 86 "FortyBelts$Belt" "driver" "I" : Cond) ∈ wsX6_apart := (List.mem_cons_of_mem _ (List.mem_append_left _ (List.mem_append_left _ (List.mem_append_left _ (List.mem_append_left _ (List.mem_append_left _ (List.mem_append_left _ (List.mem_append_left _ (List.mem_of_getElem? (i := 1) rfl)))))))))
theorem hwX6_apart_2 : (.fieldLink RX6 68 "FortyBelts$Belt" "driven" "I" : Cond) ∈ wsX6_apart := (List.mem_cons_of_mem _ (List.mem_append_left _ (List.mem_append_left _ (List.mem_append_left _ (List.mem_append_left _ (List.mem_append_left _ (List.mem_append_left _ (List.mem_append_left _ (List.mem_of_getElem? (i := 2) rfl)))))))))
theorem hwX6_apart_3 : (.methodLink RX6 109 Lib.Math.abs.name : Cond) ∈ wsX6_apart := (List.mem_cons_of_mem _ (List.mem_append_left _ (List.mem_append_left _ (List.mem_append_left _ (List.mem_append_left _ (List.mem_append_left _ (List.mem_append_left _ (List.mem_append_left _ (List.mem_of_getElem? (i := 3) rfl)))))))))
theorem hwX6_apart_4 : (.static Lib.Math.abs.name : Cond) ∈ wsX6_apart := (List.mem_cons_of_mem _ (List.mem_append_left _ (List.mem_append_left _ (List.mem_append_left _ (List.mem_append_left _ (List.mem_append_left _ (List.mem_append_left _ (List.mem_append_left _ (List.mem_of_getElem? (i := 4) rfl)))))))))
theorem hwX6_apart_5 : (.initialized "java/lang/Math" : Cond) ∈ wsX6_apart := (List.mem_cons_of_mem _ (List.mem_append_left _ (List.mem_append_left _ (List.mem_append_left _ (List.mem_append_left _ (List.mem_append_left _ (List.mem_append_left _ (List.mem_append_left _ (List.mem_of_getElem? (i := 5) rfl)))))))))
theorem hwX6_apart_6 : (.code Lib.Math.abs.name Lib.Math.abs.code 1 (some .int) : Cond) ∈ wsX6_apart := (List.mem_cons_of_mem _ (List.mem_append_left _ (List.mem_append_left _ (List.mem_append_left _ (List.mem_append_left _ (List.mem_append_left _ (List.mem_append_left _ (List.mem_append_left _ (List.mem_of_getElem? (i := 6) rfl)))))))))
theorem hcX6_apart_X6 : ∀ w ∈ wsX60, w ∈ wsX6_apart := fun _ h => (List.mem_cons_of_mem _ (List.mem_append_left _ (List.mem_append_left _ (List.mem_append_left _ (List.mem_append_left _ (List.mem_append_left _ (List.mem_append_left _ (List.mem_append_right _ h))))))))
theorem hcX6_apart_X0 : ∀ w ∈ wsX00, w ∈ wsX6_apart := fun _ h => (List.mem_cons_of_mem _ (List.mem_append_left _ (List.mem_append_left _ (List.mem_append_left _ (List.mem_append_left _ (List.mem_append_left _ (List.mem_append_right _ h)))))))
theorem hcX6_apart_X1 : ∀ w ∈ wsX10, w ∈ wsX6_apart := fun _ h => (List.mem_cons_of_mem _ (List.mem_append_left _ (List.mem_append_left _ (List.mem_append_left _ (List.mem_append_left _ (List.mem_append_right _ h))))))
theorem hcX6_apart_X2 : ∀ w ∈ wsX20, w ∈ wsX6_apart := fun _ h => (List.mem_cons_of_mem _ (List.mem_append_left _ (List.mem_append_left _ (List.mem_append_left _ (List.mem_append_right _ h)))))
theorem hcX6_apart_X3 : ∀ w ∈ wsX30, w ∈ wsX6_apart := fun _ h => (List.mem_cons_of_mem _ (List.mem_append_left _ (List.mem_append_left _ (List.mem_append_right _ h))))
theorem hcX6_apart_X4 : ∀ w ∈ wsX40, w ∈ wsX6_apart := fun _ h => (List.mem_cons_of_mem _ (List.mem_append_left _ (List.mem_append_right _ h)))
theorem hcX6_apart_X10 : ∀ w ∈ wsX100, w ∈ wsX6_apart := fun _ h => (List.mem_cons_of_mem _ (List.mem_append_right _ h))
theorem hBX6_apart : xHB wsX6_apart := ⟨hcX6_apart_X0, hcX6_apart_X1, hcX6_apart_X2, hcX6_apart_X3, hcX6_apart_X4, hcX6_apart_X10⟩
set_option maxHeartbeats 4000000 in
set_option maxRecDepth 100000 in
theorem J_X6_apart {D : va_G} {KA : Nat → ClassId} {zs : ZS} {ad : Nat → Nat} {ids : List Nat} {sz : Nat} (l : Launch) (hI : ∀ c, c < 52 → c ∈ ids) {a1 : Nat} (ok_a1 : okB ids a1) {σ : St} {post : Int32 → St → Prop} (h : wX6_apart ids a1 σ post) : Met l yX6_apart wsX6_apart rmX6_apart (va_Pc [.ref (ad 1), .ref (ad a1)] (xIn D KA zs layX stX ad ids sz σ)) (va_Qi post (xOut D KA layX stX ad ids) (xA ad ids sz)) 0 0 (xA ad ids sz) := by
  refine Met.ofW (cc := cX6_apart) (maxL := 2) (ret := (some .int)) (by decide) rfl ?_
  intro p e s m args below meth c s₁ B hml hv
  obtain ⟨hav, hsz, hK, hZ, hP, hD⟩ := hv
  have hx := B.exec
  have hb := B.bytes
  have hr := B.returns
  have hts := atoms_spec (ws := wsX6_apart) B.pre
  have hown : s.vm.findClass RX6 = some m.cls := findClass_of_methodNamed B.named
  have hlocks := B.notSynchronized
  subst hsz
  have hA : ∀ q : Nat, s.heap.size ≤ q → xA ad ids s.heap.size q := fun q h => Or.inr h
  have hW : xW D KA layX stX ad ids (xA ad ids s.heap.size) s.heap σ s.heap [] := ⟨hP, xA_D (D := D) hD, va_S.rf⟩
  have kr : ∀ (v : Int32) (σ : St) (H : Heap) (locs : List Loc) (ls : Array Slot) (pc : Nat), xW D KA layX stX ad ids (xA ad ids s.heap.size) s.heap σ H locs → post v σ → decode cX6_apart pc = .ok (.ireturn, 1) → W p l e rmX6_apart s m args below meth c H locs 0 0 (MQ below (va_Qi post (xOut D KA layX stX ad ids) (xA ad ids s.heap.size)) args s 0 0 (xA ad ids s.heap.size)) (F0 m pc ls [.int v]) := fun v σ H locs ls pc hW h hd => x_iret hx hb hr hlocks hW h hd
  have hl := lv_entry ([.ref (ad 1), .ref (ad a1)]) (n := 2) (Nat.le_of_ble_eq_true rfl)
  rw [show entryFrame m args 2 = entryFrame m ([.ref (ad 1), .ref (ad a1)] : List Value).toArray 2 from by rw [hav]]
  rw [lg_entry_eq]
  generalize (lg_sl ([.ref (ad 1), .ref (ad a1)]) ++ List.replicate (2 - (lg_sl ([.ref (ad 1), .ref (ad a1)])).length) Slot.unset).toArray = ls at hl ⊢
  have hl : lv_has ls 2 [(0, .ref (ad 1)), (1, .ref (ad a1))] := hl
  show W p l e rmX6_apart s m args below meth c s.heap [] 0 0 _ _
  generalize MQ below (va_Qi post (xOut D KA layX stX ad ids) (xA ad ids s.heap.size)) args s 0 0 (xA ad ids s.heap.size) = Q at kr ⊢
  have main : ∀ (H : Heap) (locs : List Loc) (ls : Array Slot), xW D KA layX stX ad ids (xA ad ids s.heap.size) s.heap σ H locs → lv_has ls 2 [(0, .ref (ad 1)), (1, .ref (ad a1))] → W p l e rmX6_apart s m args below meth c H locs 0 0 Q (F0 m 0 ls []) := by
    intro H locs ls hW hl
    unfold wX6_apart at h
    refine lv_aload_n hx hb dX6_apart_0 rfl (lv_at hl 0 rfl) ?_
    refine xgX6_4r hx hb hts hown hK hW 1 hcX6_apart_X6 (hI 1 (by decide)) lX_1 (hts _ hwX6_apart_0) (sX_1_4 _) dX6_apart_1 ?_
    refine lv_aload_n hx hb dX6_apart_4 rfl (lv_at hl 1 rfl) ?_
    refine xgB_1 hx hb hts hown hK hW a1 hBX6_apart ok_a1 (hts _ hwX6_apart_1) (fun _ h => h) dX6_apart_5 ?_
    obtain ⟨hi1001, h⟩ := h
    refine x_iald hx hb hK hW 3 (hI 3 (by decide)) lX_3 hi1001 dX6_apart_8 ?_
    refine lv_aload_n hx hb dX6_apart_9 rfl (lv_at hl 0 rfl) ?_
    refine xgX6_4r hx hb hts hown hK hW 1 hcX6_apart_X6 (hI 1 (by decide)) lX_1 (hts _ hwX6_apart_0) (sX_1_4 _) dX6_apart_10 ?_
    refine lv_aload_n hx hb dX6_apart_13 rfl (lv_at hl 1 rfl) ?_
    refine xgB_2 hx hb hts hown hK hW a1 hBX6_apart ok_a1 (hts _ hwX6_apart_2) (fun _ h => h) dX6_apart_14 ?_
    obtain ⟨hi1002, h⟩ := h
    refine x_iald hx hb hK hW 3 (hI 3 (by decide)) lX_3 hi1002 dX6_apart_17 ?_
    refine lv_isub hx hb dX6_apart_18 ?_
    refine va_mabs hx hb (hml.trans hl.1.symm) hown (hts _ hwX6_apart_3) (hts _ hwX6_apart_4) (hts _ hwX6_apart_5) (hts _ hwX6_apart_6) (Nat.le_of_ble_eq_true rfl) (Nat.le_of_ble_eq_true rfl) (Nat.le_of_ble_eq_true rfl) (Nat.le_of_ble_eq_true rfl) dX6_apart_19 ?_
    exact kr _ _ _ _ _ _ hW h dX6_apart_22
  exact main _ _ _ hW hl
theorem hwX11_told_0 : (.fieldLink RX11 10 "FortyBelts" "mill" "LFortyBelts$Mill;" : Cond) ∈ wsX11_told := (List.mem_cons_of_mem _ (List.mem_append_left _ (List.mem_append_left _ (List.mem_append_left _ (List.mem_append_left _ (List.mem_append_left _ (List.mem_append_left _ (List.mem_append_left _ (List.mem_append_left _ (List.mem_append_left _ (List.mem_append_left _ (List.mem_append_left _ (List.mem_of_getElem? (i := 0) rfl)))))))))))))
theorem hwX11_told_1 : (.fieldLink RX11 163 "FortyBelts$Mill" "belts" "[LFortyBelts$Belt;" : Cond) ∈ wsX11_told := (List.mem_cons_of_mem _ (List.mem_append_left _ (List.mem_append_left _ (List.mem_append_left _ (List.mem_append_left _ (List.mem_append_left _ (List.mem_append_left _ (List.mem_append_left _ (List.mem_append_left _ (List.mem_append_left _ (List.mem_append_left _ (List.mem_append_left _ (List.mem_of_getElem? (i := 1) rfl)))))))))))))
theorem hwX11_told_2 : (.fieldLink RX11 179 "FortyBelts$Belt" "kind" "I" : Cond) ∈ wsX11_told := (List.mem_cons_of_mem _ (List.mem_append_left _ (List.mem_append_left _ (List.mem_append_left _ (List.mem_append_left _ (List.mem_append_left _ (List.mem_append_left _ (List.mem_append_left _ (List.mem_append_left _ (List.mem_append_left _ (List.mem_append_left _ (List.mem_append_left _ (List.mem_of_getElem? (i := 2) rfl)))))))))))))
theorem hwX11_told_3 : (.fieldLink RX11 182 "FortyBelts$Belt" "driver" "I" : Cond) ∈ wsX11_told := (List.mem_cons_of_mem _ (List.mem_append_left _ (List.mem_append_left _ (List.mem_append_left _ (List.mem_append_left _ (List.mem_append_left _ (List.mem_append_left _ (List.mem_append_left _ (List.mem_append_left _ (List.mem_append_left _ (List.mem_append_left _ (List.mem_append_left _ (List.mem_of_getElem? (i := 3) rfl)))))))))))))
theorem hwX11_told_4 : (.fieldLink RX11 185 "FortyBelts$Belt" "driven" "I" : Cond) ∈ wsX11_told := (List.mem_cons_of_mem _ (List.mem_append_left _ (List.mem_append_left _ (List.mem_append_left _ (List.mem_append_left _ (List.mem_append_left _ (List.mem_append_left _ (List.mem_append_left _ (List.mem_append_left _ (List.mem_append_left _ (List.mem_append_left _ (List.mem_append_left _ (List.mem_of_getElem? (i := 4) rfl)))))))))))))
theorem hwX11_told_5 : (.fieldLink RX11 170 "FortyBelts$Belt" "driverDrum" "I" : Cond) ∈ wsX11_told := (List.mem_cons_of_mem _ (List.mem_append_left _ (List.mem_append_left _ (List.mem_append_left _ (List.mem_append_left _ (List.mem_append_left _ (List.mem_append_left _ (List.mem_append_left _ (List.mem_append_left _ (List.mem_append_left _ (List.mem_append_left _ (List.mem_append_left _ (List.mem_of_getElem? (i := 5) rfl)))))))))))))
theorem hwX11_told_6 : (.fieldLink RX11 173 "FortyBelts$Belt" "drivenDrum" "I" : Cond) ∈ wsX11_told := (List.mem_cons_of_mem _ (List.mem_append_left _ (List.mem_append_left _ (List.mem_append_left _ (List.mem_append_left _ (List.mem_append_left _ (List.mem_append_left _ (List.mem_append_left _ (List.mem_append_left _ (List.mem_append_left _ (List.mem_append_left _ (List.mem_append_left _ (List.mem_of_getElem? (i := 6) rfl)))))))))))))
theorem hwX11_told_7 : (.fieldLink RX11 167 "FortyBelts$Belt" "on" "Z" : Cond) ∈ wsX11_told := (List.mem_cons_of_mem _ (List.mem_append_left _ (List.mem_append_left _ (List.mem_append_left _ (List.mem_append_left _ (List.mem_append_left _ (List.mem_append_left _ (List.mem_append_left _ (List.mem_append_left _ (List.mem_append_left _ (List.mem_append_left _ (List.mem_append_left _ (List.mem_of_getElem? (i := 7) rfl)))))))))))))
theorem hwX11_told_8 : (.code yX0_way cX0_way 1 (some .int) : Cond) ∈ wsX11_told := (List.mem_cons_of_mem _ (List.mem_append_left _ (List.mem_append_left _ (List.mem_append_left _ (List.mem_append_left _ (List.mem_append_left _ (List.mem_append_left _ (List.mem_append_left _ (List.mem_append_left _ (List.mem_append_left _ (List.mem_append_left _ (List.mem_append_right _ (List.mem_append_right _ (List.mem_append_left _ (List.mem_of_getElem? (i := 19) rfl)))))))))))))))
theorem hwX11_told_9 : (.code yX0_wrap cX0_wrap 1 (some .int) : Cond) ∈ wsX11_told := (List.mem_cons_of_mem _ (List.mem_append_left _ (List.mem_append_left _ (List.mem_append_left _ (List.mem_append_left _ (List.mem_append_left _ (List.mem_append_left _ (List.mem_append_left _ (List.mem_append_left _ (List.mem_append_left _ (List.mem_append_left _ (List.mem_append_right _ (List.mem_append_right _ (List.mem_append_right _ (List.mem_append_left _ (List.mem_of_getElem? (i := 21) rfl))))))))))))))))
theorem hwX11_told_10 : (.code yX0_length cX0_length 2 (some .int) : Cond) ∈ wsX11_told := (List.mem_cons_of_mem _ (List.mem_append_left _ (List.mem_append_left _ (List.mem_append_left _ (List.mem_append_left _ (List.mem_append_left _ (List.mem_append_left _ (List.mem_append_left _ (List.mem_append_left _ (List.mem_append_left _ (List.mem_append_left _ (List.mem_append_right _ (List.mem_append_right _ (List.mem_append_right _ (List.mem_append_right _ (List.mem_append_right _ (List.mem_append_left _ (List.mem_of_getElem? (i := 17) rfl))))))))))))))))))
theorem hcX11_told_X11 : ∀ w ∈ wsX110, w ∈ wsX11_told := fun _ h => (List.mem_cons_of_mem _ (List.mem_append_left _ (List.mem_append_left _ (List.mem_append_left _ (List.mem_append_left _ (List.mem_append_left _ (List.mem_append_left _ (List.mem_append_left _ (List.mem_append_left _ (List.mem_append_left _ (List.mem_append_right _ h)))))))))))
theorem hcX11_told_X6 : ∀ w ∈ wsX60, w ∈ wsX11_told := fun _ h => (List.mem_cons_of_mem _ (List.mem_append_left _ (List.mem_append_left _ (List.mem_append_left _ (List.mem_append_left _ (List.mem_append_left _ (List.mem_append_left _ (List.mem_append_left _ (List.mem_append_left _ (List.mem_append_right _ h))))))))))
theorem hcX11_told_X0 : ∀ w ∈ wsX00, w ∈ wsX11_told := fun _ h => (List.mem_cons_of_mem _ (List.mem_append_left _ (List.mem_append_left _ (List.mem_append_left _ (List.mem_append_left _ (List.mem_append_left _ (List.mem_append_left _ (List.mem_append_left _ (List.mem_append_right _ h)))))))))
theorem hcX11_told_X1 : ∀ w ∈ wsX10, w ∈ wsX11_told := fun _ h => (List.mem_cons_of_mem _ (List.mem_append_left _ (List.mem_append_left _ (List.mem_append_left _ (List.mem_append_left _ (List.mem_append_left _ (List.mem_append_left _ (List.mem_append_right _ h))))))))
theorem hcX11_told_X2 : ∀ w ∈ wsX20, w ∈ wsX11_told := fun _ h => (List.mem_cons_of_mem _ (List.mem_append_left _ (List.mem_append_left _ (List.mem_append_left _ (List.mem_append_left _ (List.mem_append_left _ (List.mem_append_right _ h)))))))
theorem hcX11_told_X3 : ∀ w ∈ wsX30, w ∈ wsX11_told := fun _ h => (List.mem_cons_of_mem _ (List.mem_append_left _ (List.mem_append_left _ (List.mem_append_left _ (List.mem_append_left _ (List.mem_append_right _ h))))))
theorem hcX11_told_X4 : ∀ w ∈ wsX40, w ∈ wsX11_told := fun _ h => (List.mem_cons_of_mem _ (List.mem_append_left _ (List.mem_append_left _ (List.mem_append_left _ (List.mem_append_right _ h)))))
theorem hcX11_told_X10 : ∀ w ∈ wsX100, w ∈ wsX11_told := fun _ h => (List.mem_cons_of_mem _ (List.mem_append_left _ (List.mem_append_left _ (List.mem_append_right _ h))))
theorem hBX11_told : xHB wsX11_told := ⟨hcX11_told_X0, hcX11_told_X1, hcX11_told_X2, hcX11_told_X3, hcX11_told_X4, hcX11_told_X10⟩
set_option maxHeartbeats 4000000 in
set_option maxRecDepth 100000 in
theorem J_X11_told {D : va_G} {KA : Nat → ClassId} {zs : ZS} {ad : Nat → Nat} {ids : List Nat} {sz : Nat} (l : Launch) (hI : ∀ c, c < 52 → c ∈ ids) {a1 : Int32} {a2 : Int32}  {σ : St} {post : Int32 → St → Prop} (h : wX11_told ids a1 a2 σ post) : Met l yX11_told wsX11_told rmX11_told (va_Pc [.ref (ad 0), .int a1, .int a2] (xIn D KA zs layX stX ad ids sz σ)) (va_Qi post (xOut D KA layX stX ad ids) (xA ad ids sz)) 0 0 (xA ad ids sz) := by
  refine Met.ofW (cc := cX11_told) (maxL := 4) (ret := (some .int)) (by decide) rfl ?_
  intro p e s m args below meth c s₁ B hml hv
  obtain ⟨hav, hsz, hK, hZ, hP, hD⟩ := hv
  have hx := B.exec
  have hb := B.bytes
  have hr := B.returns
  have hts := atoms_spec (ws := wsX11_told) B.pre
  have hown : s.vm.findClass RX11 = some m.cls := findClass_of_methodNamed B.named
  have hlocks := B.notSynchronized
  subst hsz
  have hA : ∀ q : Nat, s.heap.size ≤ q → xA ad ids s.heap.size q := fun q h => Or.inr h
  have hW : xW D KA layX stX ad ids (xA ad ids s.heap.size) s.heap σ s.heap [] := ⟨hP, xA_D (D := D) hD, va_S.rf⟩
  have kr : ∀ (v : Int32) (σ : St) (H : Heap) (locs : List Loc) (ls : Array Slot) (pc : Nat), xW D KA layX stX ad ids (xA ad ids s.heap.size) s.heap σ H locs → post v σ → decode cX11_told pc = .ok (.ireturn, 1) → W p l e rmX11_told s m args below meth c H locs 0 0 (MQ below (va_Qi post (xOut D KA layX stX ad ids) (xA ad ids s.heap.size)) args s 0 0 (xA ad ids s.heap.size)) (F0 m pc ls [.int v]) := fun v σ H locs ls pc hW h hd => x_iret hx hb hr hlocks hW h hd
  have hl := lv_entry ([.ref (ad 0), .int a1, .int a2]) (n := 4) (Nat.le_of_ble_eq_true rfl)
  rw [show entryFrame m args 4 = entryFrame m ([.ref (ad 0), .int a1, .int a2] : List Value).toArray 4 from by rw [hav]]
  rw [lg_entry_eq]
  generalize (lg_sl ([.ref (ad 0), .int a1, .int a2]) ++ List.replicate (4 - (lg_sl ([.ref (ad 0), .int a1, .int a2])).length) Slot.unset).toArray = ls at hl ⊢
  have hl : lv_has ls 4 [(0, .ref (ad 0)), (1, .int a1), (2, .int a2)] := hl
  show W p l e rmX11_told s m args below meth c s.heap [] 0 0 _ _
  generalize MQ below (va_Qi post (xOut D KA layX stX ad ids) (xA ad ids s.heap.size)) args s 0 0 (xA ad ids s.heap.size) = Q at kr ⊢
  have main : ∀ (H : Heap) (locs : List Loc) (ls : Array Slot), xW D KA layX stX ad ids (xA ad ids s.heap.size) s.heap σ H locs → lv_has ls 4 [(0, .ref (ad 0)), (1, .int a1), (2, .int a2)] → W p l e rmX11_told s m args below meth c H locs 0 0 Q (F0 m 0 ls []) := by
    intro H locs ls hW hl
    unfold wX11_told at h
    refine lv_aload_n hx hb dX11_told_0 rfl (lv_at hl 0 rfl) ?_
    refine lv_iload_n hx hb dX11_told_1 rfl (lv_at hl 1 rfl) ?_
    refine x_calli (va_runV (As := [.int a1]) (rest := []) ⟨hx, hb, hml, hown, hts⟩ (J_X11_isBelt l hI h) (cwV 1 hts gX11_told_X11_isBelt rfl rfl rfl hdV_X11_isBelt ⟨Nat.le_of_ble_eq_true rfl, Nat.le_of_ble_eq_true rfl⟩) (x_preV (ci := 11) hK hZ hA hW (hI 0 (by decide)) lX_0 rfl) rfl rfl hl.1 rfl (lv_room (Nat.le_of_ble_eq_true rfl)) dX11_told_2 ⟨Nat.zero_le _, Nat.zero_le _⟩) hW hA (fun r1002 σ1001 H locs h hW => ?_)
    try dsimp only at h
    refine lv_if_ne (tgt := 11) hx hb dX11_told_5 (by decide) (fun c1003 => ?_) (fun c1003 => ?_)
    · have h := h.1 c1003
      refine lv_aload_n hx hb dX11_told_11 rfl (lv_at hl 0 rfl) ?_
      refine xgX11_0r hx hb hts hown hK hW 0 hcX11_told_X11 (hI 0 (by decide)) lX_0 (hts _ hwX11_told_0) (sX_0_0 _) dX11_told_12 ?_
      refine x_callv (va_runV (As := []) (rest := []) ⟨hx, hb, hml, hown, hts⟩ (J_X6_spin l hI h) (cwV 0 hts gX11_told_X6_spin rfl rfl rfl hdV_X6_spin ⟨Nat.le_of_ble_eq_true rfl, Nat.le_of_ble_eq_true rfl⟩) (x_preV (ci := 6) hK hZ hA hW (hI 1 (by decide)) lX_1 rfl) rfl rfl hl.1 rfl (lv_room (Nat.le_of_ble_eq_true rfl)) dX11_told_15 ⟨Nat.zero_le _, Nat.zero_le _⟩) hW hA (fun σ1004 H locs h hW => ?_)
      try dsimp only at h
      refine lv_aload_n hx hb dX11_told_18 rfl (lv_at hl 0 rfl) ?_
      refine xgX11_0r hx hb hts hown hK hW 0 hcX11_told_X11 (hI 0 (by decide)) lX_0 (hts _ hwX11_told_0) (sX_0_0 _) dX11_told_19 ?_
      refine xgX6_12r hx hb hts hown hK hW 1 hcX11_told_X6 (hI 1 (by decide)) lX_1 (hts _ hwX11_told_1) (sX_1_12 _) dX11_told_22 ?_
      refine lv_iload_n hx hb dX11_told_25 rfl (lv_at hl 1 rfl) ?_
      obtain ⟨hi1005, h⟩ := h
      obtain ⟨o1006, hr1007, ok_o1006, h⟩ := h
      refine x_ald hx hb hK hW 11 0 (hI 11 (by decide)) lX_11 rfl hi1005 ((sX_11 _ _).trans hr1007) dX11_told_26 ?_
      refine lv_astore_n (lv' := [(3, .ref (ad o1006)), (0, .ref (ad 0)), (1, .int a1), (2, .int a2)]) hx hb dX11_told_27 rfl hl (by decide) rfl (fun ls hl => ?_)
      refine lv_iload_n hx hb dX11_told_28 rfl (lv_at hl 3 rfl) ?_
      refine lv_topi (fun v1008 hv1008 => ?_)
      have h := h v1008 hv1008
      obtain ⟨hcase, h⟩ := h
      by_cases hc29_0 : v1008 = (0 : Int32)
      · have h := hcase hc29_0
        clear hcase
        refine lv_tableIn (tgt := 92) hx hb dX11_told_29 (by rw [hc29_0] <;> decide) (by rw [hc29_0] <;> decide) (by rw [hc29_0]; rfl) (by decide) ?_
        refine lv_aload_n hx hb dX11_told_92 rfl (lv_at hl 0 rfl) ?_
        refine xgB_0 hx hb hts hown hK hW o1006 hBX11_told ok_o1006 (hts _ hwX11_told_2) (fun _ h => h) dX11_told_93 ?_
        exact kr _ _ _ _ _ _ hW h dX11_told_96
      clear hcase
      obtain ⟨hcase, h⟩ := h
      by_cases hc29_1 : v1008 = (1 : Int32)
      · have h := hcase hc29_1
        clear hcase
        refine lv_tableIn (tgt := 97) hx hb dX11_told_29 (by rw [hc29_1] <;> decide) (by rw [hc29_1] <;> decide) (by rw [hc29_1]; rfl) (by decide) ?_
        refine lv_aload_n hx hb dX11_told_97 rfl (lv_at hl 0 rfl) ?_
        refine xgB_1 hx hb hts hown hK hW o1006 hBX11_told ok_o1006 (hts _ hwX11_told_3) (fun _ h => h) dX11_told_98 ?_
        exact kr _ _ _ _ _ _ hW h dX11_told_101
      clear hcase
      obtain ⟨hcase, h⟩ := h
      by_cases hc29_2 : v1008 = (2 : Int32)
      · have h := hcase hc29_2
        clear hcase
        refine lv_tableIn (tgt := 102) hx hb dX11_told_29 (by rw [hc29_2] <;> decide) (by rw [hc29_2] <;> decide) (by rw [hc29_2]; rfl) (by decide) ?_
        refine lv_aload_n hx hb dX11_told_102 rfl (lv_at hl 0 rfl) ?_
        refine xgB_2 hx hb hts hown hK hW o1006 hBX11_told ok_o1006 (hts _ hwX11_told_4) (fun _ h => h) dX11_told_103 ?_
        exact kr _ _ _ _ _ _ hW h dX11_told_106
      clear hcase
      obtain ⟨hcase, h⟩ := h
      by_cases hc29_3 : v1008 = (3 : Int32)
      · have h := hcase hc29_3
        clear hcase
        refine lv_tableIn (tgt := 107) hx hb dX11_told_29 (by rw [hc29_3] <;> decide) (by rw [hc29_3] <;> decide) (by rw [hc29_3]; rfl) (by decide) ?_
        refine lv_aload_n hx hb dX11_told_107 rfl (lv_at hl 0 rfl) ?_
        refine xgB_4 hx hb hts hown hK hW o1006 hBX11_told ok_o1006 (hts _ hwX11_told_5) (fun _ h => h) dX11_told_108 ?_
        exact kr _ _ _ _ _ _ hW h dX11_told_111
      clear hcase
      obtain ⟨hcase, h⟩ := h
      by_cases hc29_4 : v1008 = (4 : Int32)
      · have h := hcase hc29_4
        clear hcase
        refine lv_tableIn (tgt := 112) hx hb dX11_told_29 (by rw [hc29_4] <;> decide) (by rw [hc29_4] <;> decide) (by rw [hc29_4]; rfl) (by decide) ?_
        refine lv_aload_n hx hb dX11_told_112 rfl (lv_at hl 0 rfl) ?_
        refine xgB_5 hx hb hts hown hK hW o1006 hBX11_told ok_o1006 (hts _ hwX11_told_6) (fun _ h => h) dX11_told_113 ?_
        exact kr _ _ _ _ _ _ hW h dX11_told_116
      clear hcase
      obtain ⟨hcase, h⟩ := h
      by_cases hc29_5 : v1008 = (5 : Int32)
      · have h := hcase hc29_5
        clear hcase
        refine lv_tableIn (tgt := 117) hx hb dX11_told_29 (by rw [hc29_5] <;> decide) (by rw [hc29_5] <;> decide) (by rw [hc29_5]; rfl) (by decide) ?_
        refine lv_aload_n hx hb dX11_told_117 rfl (lv_at hl 0 rfl) ?_
        refine xgB_8 hx hb hts hown hK hW o1006 hBX11_told ok_o1006 (hts _ hwX11_told_7) (fun _ h => h) dX11_told_118 ?_
        refine x_calli (va_runS (As := [.int (gI σ1004 o1006 8)]) (rest := []) ⟨hx, hb, hml, hown, hts⟩ (J_X11_asBit l hI h) (va_cwS 1 hts gX11_told_X11_asBit rfl rfl rfl hdS_X11_asBit ⟨Nat.le_of_ble_eq_true rfl, Nat.le_of_ble_eq_true rfl⟩) (x_preS hK hZ hA hW) rfl rfl hl.1 rfl (lv_room (Nat.le_of_ble_eq_true rfl)) dX11_told_121 ⟨Nat.zero_le _, Nat.zero_le _⟩) hW hA (fun r1010 σ1009 H locs h hW => ?_)
        try dsimp only at h
        exact kr _ _ _ _ _ _ hW h dX11_told_124
      clear hcase
      obtain ⟨hcase, h⟩ := h
      by_cases hc29_6 : v1008 = (6 : Int32)
      · have h := hcase hc29_6
        clear hcase
        refine lv_tableIn (tgt := 125) hx hb dX11_told_29 (by rw [hc29_6] <;> decide) (by rw [hc29_6] <;> decide) (by rw [hc29_6]; rfl) (by decide) ?_
        refine lv_aload_n hx hb dX11_told_125 rfl (lv_at hl 0 rfl) ?_
        have hr1011 : ∀ post : Int32 → St → Prop, wB_way ids o1006 σ1004 post → va_Run p l e rmX11_told s m args below meth c H locs 0 0 0 0 (F0 m 126 ls ([].reverse ++ .ref (ad o1006) :: [])) [] (va_Qi post (xOut D KA layX stX ad ids) (xA ad ids H.size) (Value.ref (ad o1006) :: []).toArray) (xA ad ids H.size) := by
          intro post h
          unfold wB_way at h
          rcases (okB_cases ok_o1006) with hq | hq | hq | hq | hq | hq
          · exact va_runV (As := []) (rest := []) ⟨hx, hb, hml, hown, hts⟩ (J_X0_way l hI ok_o1006 (h.1 (Or.inl hq))) (cwV 0 hts gX11_told_X0_way rfl rfl rfl hdV_X0_way ⟨Nat.le_of_ble_eq_true rfl, Nat.le_of_ble_eq_true rfl⟩) (x_preV (ci := 0) hK hZ hA hW ok_o1006.1 (lay_okB0 ok_o1006 hq) rfl) rfl rfl hl.1 rfl (lv_room (Nat.le_of_ble_eq_true rfl)) dX11_told_126 ⟨Nat.zero_le _, Nat.zero_le _⟩
          · exact va_runU (As := []) (rest := []) ⟨hx, hb, hml, hown, hts⟩ (J_X2_way l hI ok_o1006 (h.2.1 hq)) (va_cwO 0 hts gX11_told_X2_way_u188X2 rfl rfl rfl hwX11_told_8 (by decide +kernel) ⟨Nat.le_of_ble_eq_true rfl, Nat.le_of_ble_eq_true rfl⟩) (x_preV (ci := 2) hK hZ hA hW ok_o1006.1 (lay_okB1 ok_o1006 hq) rfl) rfl rfl hl.1 rfl (lv_room (Nat.le_of_ble_eq_true rfl)) dX11_told_126 ⟨Nat.zero_le _, Nat.zero_le _⟩
          · exact va_runU (As := []) (rest := []) ⟨hx, hb, hml, hown, hts⟩ (J_X0_way l hI ok_o1006 (h.1 (Or.inr (Or.inl hq)))) (va_cwU 0 hts gX11_told_X0_way_u188X3 rfl rfl rfl rfl (by decide +kernel) ⟨Nat.le_of_ble_eq_true rfl, Nat.le_of_ble_eq_true rfl⟩) (x_preV (ci := 3) hK hZ hA hW ok_o1006.1 (lay_okB2 ok_o1006 hq) rfl) rfl rfl hl.1 rfl (lv_room (Nat.le_of_ble_eq_true rfl)) dX11_told_126 ⟨Nat.zero_le _, Nat.zero_le _⟩
          · exact va_runU (As := []) (rest := []) ⟨hx, hb, hml, hown, hts⟩ (J_X0_way l hI ok_o1006 (h.1 (Or.inr (Or.inr (Or.inl hq))))) (va_cwU 0 hts gX11_told_X0_way_u188X1 rfl rfl rfl rfl (by decide +kernel) ⟨Nat.le_of_ble_eq_true rfl, Nat.le_of_ble_eq_true rfl⟩) (x_preV (ci := 1) hK hZ hA hW ok_o1006.1 (lay_okB3 ok_o1006 hq) rfl) rfl rfl hl.1 rfl (lv_room (Nat.le_of_ble_eq_true rfl)) dX11_told_126 ⟨Nat.zero_le _, Nat.zero_le _⟩
          · exact va_runU (As := []) (rest := []) ⟨hx, hb, hml, hown, hts⟩ (J_X0_way l hI ok_o1006 (h.1 (Or.inr (Or.inr (Or.inr hq))))) (va_cwU 0 hts gX11_told_X0_way_u188X4 rfl rfl rfl rfl (by decide +kernel) ⟨Nat.le_of_ble_eq_true rfl, Nat.le_of_ble_eq_true rfl⟩) (x_preV (ci := 4) hK hZ hA hW ok_o1006.1 (lay_okB4 ok_o1006 hq) rfl) rfl rfl hl.1 rfl (lv_room (Nat.le_of_ble_eq_true rfl)) dX11_told_126 ⟨Nat.zero_le _, Nat.zero_le _⟩
          · exact va_runU (As := []) (rest := []) ⟨hx, hb, hml, hown, hts⟩ (J_X10_way l hI ok_o1006 (h.2.2 hq)) (va_cwO 0 hts gX11_told_X10_way_u188X10 rfl rfl rfl hwX11_told_8 (by decide +kernel) ⟨Nat.le_of_ble_eq_true rfl, Nat.le_of_ble_eq_true rfl⟩) (x_preV (ci := 10) hK hZ hA hW ok_o1006.1 (lay_okB5 ok_o1006 hq) rfl) rfl rfl hl.1 rfl (lv_room (Nat.le_of_ble_eq_true rfl)) dX11_told_126 ⟨Nat.zero_le _, Nat.zero_le _⟩
        refine x_calli (hr1011 _ h) hW hA (fun r1013 σ1012 H locs h hW => ?_)
        try dsimp only at h
        exact kr _ _ _ _ _ _ hW h dX11_told_129
      clear hcase
      obtain ⟨hcase, h⟩ := h
      by_cases hc29_7 : v1008 = (7 : Int32)
      · have h := hcase hc29_7
        clear hcase
        refine lv_tableIn (tgt := 130) hx hb dX11_told_29 (by rw [hc29_7] <;> decide) (by rw [hc29_7] <;> decide) (by rw [hc29_7]; rfl) (by decide) ?_
        refine lv_aload_n hx hb dX11_told_130 rfl (lv_at hl 0 rfl) ?_
        have hr1014 : ∀ post : Int32 → St → Prop, wB_wrap ids o1006 σ1004 post → va_Run p l e rmX11_told s m args below meth c H locs 0 0 0 0 (F0 m 131 ls ([].reverse ++ .ref (ad o1006) :: [])) [] (va_Qi post (xOut D KA layX stX ad ids) (xA ad ids H.size) (Value.ref (ad o1006) :: []).toArray) (xA ad ids H.size) := by
          intro post h
          unfold wB_wrap at h
          rcases (okB_cases ok_o1006) with hq | hq | hq | hq | hq | hq
          · exact va_runV (As := []) (rest := []) ⟨hx, hb, hml, hown, hts⟩ (J_X0_wrap l hI ok_o1006 (h.1 (Or.inl hq))) (cwV 0 hts gX11_told_X0_wrap rfl rfl rfl hdV_X0_wrap ⟨Nat.le_of_ble_eq_true rfl, Nat.le_of_ble_eq_true rfl⟩) (x_preV (ci := 0) hK hZ hA hW ok_o1006.1 (lay_okB0 ok_o1006 hq) rfl) rfl rfl hl.1 rfl (lv_room (Nat.le_of_ble_eq_true rfl)) dX11_told_131 ⟨Nat.zero_le _, Nat.zero_le _⟩
          · exact va_runU (As := []) (rest := []) ⟨hx, hb, hml, hown, hts⟩ (J_X2_wrap l hI ok_o1006 (h.2.1 hq)) (va_cwO 0 hts gX11_told_X2_wrap_u191X2 rfl rfl rfl hwX11_told_9 (by decide +kernel) ⟨Nat.le_of_ble_eq_true rfl, Nat.le_of_ble_eq_true rfl⟩) (x_preV (ci := 2) hK hZ hA hW ok_o1006.1 (lay_okB1 ok_o1006 hq) rfl) rfl rfl hl.1 rfl (lv_room (Nat.le_of_ble_eq_true rfl)) dX11_told_131 ⟨Nat.zero_le _, Nat.zero_le _⟩
          · exact va_runU (As := []) (rest := []) ⟨hx, hb, hml, hown, hts⟩ (J_X3_wrap l hI ok_o1006 (h.2.2.1 hq)) (va_cwO 0 hts gX11_told_X3_wrap_u191X3 rfl rfl rfl hwX11_told_9 (by decide +kernel) ⟨Nat.le_of_ble_eq_true rfl, Nat.le_of_ble_eq_true rfl⟩) (x_preV (ci := 3) hK hZ hA hW ok_o1006.1 (lay_okB2 ok_o1006 hq) rfl) rfl rfl hl.1 rfl (lv_room (Nat.le_of_ble_eq_true rfl)) dX11_told_131 ⟨Nat.zero_le _, Nat.zero_le _⟩
          · exact va_runU (As := []) (rest := []) ⟨hx, hb, hml, hown, hts⟩ (J_X0_wrap l hI ok_o1006 (h.1 (Or.inr hq))) (va_cwU 0 hts gX11_told_X0_wrap_u191X1 rfl rfl rfl rfl (by decide +kernel) ⟨Nat.le_of_ble_eq_true rfl, Nat.le_of_ble_eq_true rfl⟩) (x_preV (ci := 1) hK hZ hA hW ok_o1006.1 (lay_okB3 ok_o1006 hq) rfl) rfl rfl hl.1 rfl (lv_room (Nat.le_of_ble_eq_true rfl)) dX11_told_131 ⟨Nat.zero_le _, Nat.zero_le _⟩
          · exact va_runU (As := []) (rest := []) ⟨hx, hb, hml, hown, hts⟩ (J_X4_wrap l hI ok_o1006 (h.2.2.2.1 hq)) (va_cwO 0 hts gX11_told_X4_wrap_u191X4 rfl rfl rfl hwX11_told_9 (by decide +kernel) ⟨Nat.le_of_ble_eq_true rfl, Nat.le_of_ble_eq_true rfl⟩) (x_preV (ci := 4) hK hZ hA hW ok_o1006.1 (lay_okB4 ok_o1006 hq) rfl) rfl rfl hl.1 rfl (lv_room (Nat.le_of_ble_eq_true rfl)) dX11_told_131 ⟨Nat.zero_le _, Nat.zero_le _⟩
          · exact va_runU (As := []) (rest := []) ⟨hx, hb, hml, hown, hts⟩ (J_X10_wrap l hI ok_o1006 (h.2.2.2.2 hq)) (va_cwO 0 hts gX11_told_X10_wrap_u191X10 rfl rfl rfl hwX11_told_9 (by decide +kernel) ⟨Nat.le_of_ble_eq_true rfl, Nat.le_of_ble_eq_true rfl⟩) (x_preV (ci := 10) hK hZ hA hW ok_o1006.1 (lay_okB5 ok_o1006 hq) rfl) rfl rfl hl.1 rfl (lv_room (Nat.le_of_ble_eq_true rfl)) dX11_told_131 ⟨Nat.zero_le _, Nat.zero_le _⟩
        refine x_calli (hr1014 _ h) hW hA (fun r1016 σ1015 H locs h hW => ?_)
        try dsimp only at h
        exact kr _ _ _ _ _ _ hW h dX11_told_134
      clear hcase
      obtain ⟨hcase, h⟩ := h
      by_cases hc29_8 : v1008 = (8 : Int32)
      · have h := hcase hc29_8
        clear hcase
        refine lv_tableIn (tgt := 135) hx hb dX11_told_29 (by rw [hc29_8] <;> decide) (by rw [hc29_8] <;> decide) (by rw [hc29_8]; rfl) (by decide) ?_
        refine lv_aload_n hx hb dX11_told_135 rfl (lv_at hl 0 rfl) ?_
        refine lv_aload_n hx hb dX11_told_136 rfl (lv_at hl 1 rfl) ?_
        refine xgX11_0r hx hb hts hown hK hW 0 hcX11_told_X11 (hI 0 (by decide)) lX_0 (hts _ hwX11_told_0) (sX_0_0 _) dX11_told_137 ?_
        refine lv_aload_n hx hb dX11_told_140 rfl (lv_at hl 0 rfl) ?_
        refine x_calli (va_runV (As := [.ref (ad o1006)]) (rest := [.ref (ad o1006)]) ⟨hx, hb, hml, hown, hts⟩ (J_X6_apart l hI ok_o1006 h) (cwV 1 hts gX11_told_X6_apart rfl rfl rfl hdV_X6_apart ⟨Nat.le_of_ble_eq_true rfl, Nat.le_of_ble_eq_true rfl⟩) (x_preV (ci := 6) hK hZ hA hW (hI 1 (by decide)) lX_1 rfl) rfl rfl hl.1 rfl (lv_room (Nat.le_of_ble_eq_true rfl)) dX11_told_141 ⟨Nat.zero_le _, Nat.zero_le _⟩) hW hA (fun r1018 σ1017 H locs h hW => ?_)
        try dsimp only at h
        have hr1019 : ∀ post : Int32 → St → Prop, wB_length ids o1006 r1018 σ1017 post → va_Run p l e rmX11_told s m args below meth c H locs 0 0 0 0 (F0 m 144 ls ([.int r1018].reverse ++ .ref (ad o1006) :: [])) [] (va_Qi post (xOut D KA layX stX ad ids) (xA ad ids H.size) (Value.ref (ad o1006) :: [.int r1018]).toArray) (xA ad ids H.size) := by
          intro post h
          unfold wB_length at h
          rcases (okB_cases ok_o1006) with hq | hq | hq | hq | hq | hq
          · exact va_runV (As := [.int r1018]) (rest := []) ⟨hx, hb, hml, hown, hts⟩ (J_X0_length l hI ok_o1006 (Or.inl hq) (h.1 (Or.inl hq))) (cwV 1 hts gX11_told_X0_length rfl rfl rfl hdV_X0_length ⟨Nat.le_of_ble_eq_true rfl, Nat.le_of_ble_eq_true rfl⟩) (x_preV (ci := 0) hK hZ hA hW ok_o1006.1 (lay_okB0 ok_o1006 hq) rfl) rfl rfl hl.1 rfl (lv_room (Nat.le_of_ble_eq_true rfl)) dX11_told_144 ⟨Nat.zero_le _, Nat.zero_le _⟩
          · exact va_runU (As := [.int r1018]) (rest := []) ⟨hx, hb, hml, hown, hts⟩ (J_X2_length l hI ok_o1006 (Or.inl hq) (h.2.1 (Or.inl hq))) (va_cwO 1 hts gX11_told_X2_length_u197X2 rfl rfl rfl hwX11_told_10 (by decide +kernel) ⟨Nat.le_of_ble_eq_true rfl, Nat.le_of_ble_eq_true rfl⟩) (x_preV (ci := 2) hK hZ hA hW ok_o1006.1 (lay_okB1 ok_o1006 hq) rfl) rfl rfl hl.1 rfl (lv_room (Nat.le_of_ble_eq_true rfl)) dX11_told_144 ⟨Nat.zero_le _, Nat.zero_le _⟩
          · exact va_runU (As := [.int r1018]) (rest := []) ⟨hx, hb, hml, hown, hts⟩ (J_X3_length l hI ok_o1006 hq (h.2.2.1 hq)) (va_cwO 1 hts gX11_told_X3_length_u197X3 rfl rfl rfl hwX11_told_10 (by decide +kernel) ⟨Nat.le_of_ble_eq_true rfl, Nat.le_of_ble_eq_true rfl⟩) (x_preV (ci := 3) hK hZ hA hW ok_o1006.1 (lay_okB2 ok_o1006 hq) rfl) rfl rfl hl.1 rfl (lv_room (Nat.le_of_ble_eq_true rfl)) dX11_told_144 ⟨Nat.zero_le _, Nat.zero_le _⟩
          · exact va_runU (As := [.int r1018]) (rest := []) ⟨hx, hb, hml, hown, hts⟩ (J_X0_length l hI ok_o1006 (Or.inr hq) (h.1 (Or.inr hq))) (va_cwU 1 hts gX11_told_X0_length_u197X1 rfl rfl rfl rfl (by decide +kernel) ⟨Nat.le_of_ble_eq_true rfl, Nat.le_of_ble_eq_true rfl⟩) (x_preV (ci := 1) hK hZ hA hW ok_o1006.1 (lay_okB3 ok_o1006 hq) rfl) rfl rfl hl.1 rfl (lv_room (Nat.le_of_ble_eq_true rfl)) dX11_told_144 ⟨Nat.zero_le _, Nat.zero_le _⟩
          · exact va_runU (As := [.int r1018]) (rest := []) ⟨hx, hb, hml, hown, hts⟩ (J_X4_length l hI ok_o1006 hq (h.2.2.2 hq)) (va_cwO 1 hts gX11_told_X4_length_u197X4 rfl rfl rfl hwX11_told_10 (by decide +kernel) ⟨Nat.le_of_ble_eq_true rfl, Nat.le_of_ble_eq_true rfl⟩) (x_preV (ci := 4) hK hZ hA hW ok_o1006.1 (lay_okB4 ok_o1006 hq) rfl) rfl rfl hl.1 rfl (lv_room (Nat.le_of_ble_eq_true rfl)) dX11_told_144 ⟨Nat.zero_le _, Nat.zero_le _⟩
          · exact va_runU (As := [.int r1018]) (rest := []) ⟨hx, hb, hml, hown, hts⟩ (J_X2_length l hI ok_o1006 (Or.inr hq) (h.2.1 (Or.inr hq))) (va_cwO 1 hts gX11_told_X2_length_u197X10 rfl rfl rfl hwX11_told_10 (by decide +kernel) ⟨Nat.le_of_ble_eq_true rfl, Nat.le_of_ble_eq_true rfl⟩) (x_preV (ci := 10) hK hZ hA hW ok_o1006.1 (lay_okB5 ok_o1006 hq) rfl) rfl rfl hl.1 rfl (lv_room (Nat.le_of_ble_eq_true rfl)) dX11_told_144 ⟨Nat.zero_le _, Nat.zero_le _⟩
        refine x_calli (hr1019 _ h) hW hA (fun r1021 σ1020 H locs h hW => ?_)
        try dsimp only at h
        exact kr _ _ _ _ _ _ hW h dX11_told_147
      clear hcase
      obtain ⟨hcase, h⟩ := h
      by_cases hc29_9 : v1008 = (9 : Int32)
      · have h := hcase hc29_9
        clear hcase
        refine lv_tableIn (tgt := 148) hx hb dX11_told_29 (by rw [hc29_9] <;> decide) (by rw [hc29_9] <;> decide) (by rw [hc29_9]; rfl) (by decide) ?_
        refine lv_aload_n hx hb dX11_told_148 rfl (lv_at hl 1 rfl) ?_
        refine xgX11_0r hx hb hts hown hK hW 0 hcX11_told_X11 (hI 0 (by decide)) lX_0 (hts _ hwX11_told_0) (sX_0_0 _) dX11_told_149 ?_
        refine lv_aload_n hx hb dX11_told_152 rfl (lv_at hl 0 rfl) ?_
        refine x_calli (va_runV (As := [.ref (ad o1006)]) (rest := []) ⟨hx, hb, hml, hown, hts⟩ (J_X6_pull l hI ok_o1006 h) (cwV 1 hts gX11_told_X6_pull rfl rfl rfl hdV_X6_pull ⟨Nat.le_of_ble_eq_true rfl, Nat.le_of_ble_eq_true rfl⟩) (x_preV (ci := 6) hK hZ hA hW (hI 1 (by decide)) lX_1 rfl) rfl rfl hl.1 rfl (lv_room (Nat.le_of_ble_eq_true rfl)) dX11_told_153 ⟨Nat.zero_le _, Nat.zero_le _⟩) hW hA (fun r1023 σ1022 H locs h hW => ?_)
        try dsimp only at h
        exact kr _ _ _ _ _ _ hW h dX11_told_156
      clear hcase
      obtain ⟨hcase, h⟩ := h
      by_cases hc29_10 : v1008 = (10 : Int32)
      · have h := hcase hc29_10
        clear hcase
        refine lv_tableIn (tgt := 157) hx hb dX11_told_29 (by rw [hc29_10] <;> decide) (by rw [hc29_10] <;> decide) (by rw [hc29_10]; rfl) (by decide) ?_
        refine lv_aload_n hx hb dX11_told_157 rfl (lv_at hl 1 rfl) ?_
        refine xgX11_0r hx hb hts hown hK hW 0 hcX11_told_X11 (hI 0 (by decide)) lX_0 (hts _ hwX11_told_0) (sX_0_0 _) dX11_told_158 ?_
        refine lv_aload_n hx hb dX11_told_161 rfl (lv_at hl 0 rfl) ?_
        refine x_calli (va_runV (As := [.ref (ad o1006)]) (rest := []) ⟨hx, hb, hml, hown, hts⟩ (J_X6_slips l hI ok_o1006 h) (cwV 1 hts gX11_told_X6_slips rfl rfl rfl hdV_X6_slips ⟨Nat.le_of_ble_eq_true rfl, Nat.le_of_ble_eq_true rfl⟩) (x_preV (ci := 6) hK hZ hA hW (hI 1 (by decide)) lX_1 rfl) rfl rfl hl.1 rfl (lv_room (Nat.le_of_ble_eq_true rfl)) dX11_told_162 ⟨Nat.zero_le _, Nat.zero_le _⟩) hW hA (fun r1025 σ1024 H locs h hW => ?_)
        try dsimp only at h
        refine x_calli (va_runS (As := [.int r1025]) (rest := []) ⟨hx, hb, hml, hown, hts⟩ (J_X11_asBit l hI h) (va_cwS 1 hts gX11_told_X11_asBit rfl rfl rfl hdS_X11_asBit ⟨Nat.le_of_ble_eq_true rfl, Nat.le_of_ble_eq_true rfl⟩) (x_preS hK hZ hA hW) rfl rfl hl.1 rfl (lv_room (Nat.le_of_ble_eq_true rfl)) dX11_told_165 ⟨Nat.zero_le _, Nat.zero_le _⟩) hW hA (fun r1027 σ1026 H locs h hW => ?_)
        try dsimp only at h
        exact kr _ _ _ _ _ _ hW h dX11_told_168
      clear hcase
      obtain ⟨hcase, h⟩ := h
      by_cases hc29_11 : v1008 = (11 : Int32)
      · have h := hcase hc29_11
        clear hcase
        refine lv_tableIn (tgt := 169) hx hb dX11_told_29 (by rw [hc29_11] <;> decide) (by rw [hc29_11] <;> decide) (by rw [hc29_11]; rfl) (by decide) ?_
        refine lv_aload_n hx hb dX11_told_169 rfl (lv_at hl 1 rfl) ?_
        refine lv_aload_n hx hb dX11_told_170 rfl (lv_at hl 0 rfl) ?_
        refine x_calli (va_runV (As := [.ref (ad o1006)]) (rest := []) ⟨hx, hb, hml, hown, hts⟩ (J_X11_wear l hI ok_o1006 h) (cwV 1 hts gX11_told_X11_wear rfl rfl rfl hdV_X11_wear ⟨Nat.le_of_ble_eq_true rfl, Nat.le_of_ble_eq_true rfl⟩) (x_preV (ci := 11) hK hZ hA hW (hI 0 (by decide)) lX_0 rfl) rfl rfl hl.1 rfl (lv_room (Nat.le_of_ble_eq_true rfl)) dX11_told_171 ⟨Nat.zero_le _, Nat.zero_le _⟩) hW hA (fun r1029 σ1028 H locs h hW => ?_)
        try dsimp only at h
        exact kr _ _ _ _ _ _ hW h dX11_told_174
      clear hcase
      have h := h ⟨hc29_0, hc29_1, hc29_2, hc29_3, hc29_4, hc29_5, hc29_6, hc29_7, hc29_8, hc29_9, hc29_10, hc29_11⟩
      refine lv_tableOut (tgt := 175) hx hb dX11_told_29 (tsw_out v1008 (0) (11) (fun k h1 h2 => ?_)) (by decide) ?_
      · rcases (show k = 0 ∨ k = 1 ∨ k = 2 ∨ k = 3 ∨ k = 4 ∨ k = 5 ∨ k = 6 ∨ k = 7 ∨ k = 8 ∨ k = 9 ∨ k = 10 ∨ k = 11 by omega) with rfl | rfl | rfl | rfl | rfl | rfl | rfl | rfl | rfl | rfl | rfl | rfl
        · exact hc29_0
        · exact hc29_1
        · exact hc29_2
        · exact hc29_3
        · exact hc29_4
        · exact hc29_5
        · exact hc29_6
        · exact hc29_7
        · exact hc29_8
        · exact hc29_9
        · exact hc29_10
        · exact hc29_11
      refine lv_bipush (v := (-5)) hx hb dX11_told_175 (by decide) ?_
      exact kr _ _ _ _ _ _ hW h dX11_told_177
    · have h := h.2 c1003
      refine lv_bipush (v := (-5)) hx hb dX11_told_8 (by decide) ?_
      exact kr _ _ _ _ _ _ hW h dX11_told_10
  exact main _ _ _ hW hl
theorem hwX6_commonDivisor_0 : (.fieldLink RX6 21 "FortyBelts$Mill" "above" "[J" : Cond) ∈ wsX6_commonDivisor := (List.mem_cons_of_mem _ (List.mem_append_left _ (List.mem_of_getElem? (i := 0) rfl)))
theorem hwX6_commonDivisor_1 : (.fieldLink RX6 25 "FortyBelts$Mill" "below" "[J" : Cond) ∈ wsX6_commonDivisor := (List.mem_cons_of_mem _ (List.mem_append_left _ (List.mem_of_getElem? (i := 1) rfl)))
theorem hcX6_commonDivisor_X6 : ∀ w ∈ wsX60, w ∈ wsX6_commonDivisor := fun _ h => (List.mem_cons_of_mem _ (List.mem_append_right _ h))
set_option maxHeartbeats 4000000 in
set_option maxRecDepth 100000 in
theorem J_X6_commonDivisor {D : va_G} {KA : Nat → ClassId} {zs : ZS} {ad : Nat → Nat} {ids : List Nat} {sz : Nat} (l : Launch) (hI : ∀ c, c < 52 → c ∈ ids) {a1 : Int32}  {σ : St} {post : Int64 → St → Prop} (h : wX6_commonDivisor ids a1 σ post) : Met l yX6_commonDivisor wsX6_commonDivisor rmX6_commonDivisor (va_Pc [.ref (ad 1), .int a1] (xIn D KA zs layX stX ad ids sz σ)) (va_Ql post (xOut D KA layX stX ad ids) (xA ad ids sz)) 0 0 (xA ad ids sz) := by
  refine Met.ofW (cc := cX6_commonDivisor) (maxL := 9) (ret := (some .long)) (by decide) rfl ?_
  intro p e s m args below meth c s₁ B hml hv
  obtain ⟨hav, hsz, hK, hZ, hP, hD⟩ := hv
  have hx := B.exec
  have hb := B.bytes
  have hr := B.returns
  have hts := atoms_spec (ws := wsX6_commonDivisor) B.pre
  have hown : s.vm.findClass RX6 = some m.cls := findClass_of_methodNamed B.named
  have hlocks := B.notSynchronized
  subst hsz
  have hA : ∀ q : Nat, s.heap.size ≤ q → xA ad ids s.heap.size q := fun q h => Or.inr h
  have hW : xW D KA layX stX ad ids (xA ad ids s.heap.size) s.heap σ s.heap [] := ⟨hP, xA_D (D := D) hD, va_S.rf⟩
  have kr : ∀ (v : Int64) (σ : St) (H : Heap) (locs : List Loc) (ls : Array Slot) (pc : Nat), xW D KA layX stX ad ids (xA ad ids s.heap.size) s.heap σ H locs → post v σ → decode cX6_commonDivisor pc = .ok (.lreturn, 1) → W p l e rmX6_commonDivisor s m args below meth c H locs 0 0 (MQ below (va_Ql post (xOut D KA layX stX ad ids) (xA ad ids s.heap.size)) args s 0 0 (xA ad ids s.heap.size)) (F0 m pc ls [.long v]) := fun v σ H locs ls pc hW h hd => x_lret hx hb hr hlocks hW h hd
  have hl := lv_entry ([.ref (ad 1), .int a1]) (n := 9) (Nat.le_of_ble_eq_true rfl)
  rw [show entryFrame m args 9 = entryFrame m ([.ref (ad 1), .int a1] : List Value).toArray 9 from by rw [hav]]
  rw [lg_entry_eq]
  generalize (lg_sl ([.ref (ad 1), .int a1]) ++ List.replicate (9 - (lg_sl ([.ref (ad 1), .int a1])).length) Slot.unset).toArray = ls at hl ⊢
  have hl : lv_has ls 9 [(0, .ref (ad 1)), (1, .int a1)] := hl
  show W p l e rmX6_commonDivisor s m args below meth c s.heap [] 0 0 _ _
  generalize MQ below (va_Ql post (xOut D KA layX stX ad ids) (xA ad ids s.heap.size)) args s 0 0 (xA ad ids s.heap.size) = Q at kr ⊢
  have blk52 : ∀ (x2 : Int64) (σ : St) (H : Heap) (locs : List Loc) (ls : Array Slot), xW D KA layX stX ad ids (xA ad ids s.heap.size) s.heap σ H locs → lv_has ls 9 [(2, .long x2)] → wX6_commonDivisor_52 ids post x2 σ → W p l e rmX6_commonDivisor s m args below meth c H locs 0 0 Q (F0 m 52 ls []) := by
    intro   x2 σ H locs ls hW hl h
    unfold wX6_commonDivisor_52 at h
    refine lv_lload_n hx hb dX6_commonDivisor_52 rfl (lv_at hl 0 rfl) ?_
    exact kr _ _ _ _ _ _ hW h dX6_commonDivisor_53
  have blk18 : ∀ (n : Nat) (x2 : Int64) (x4 : Int64) (x6 : Int32) (σ : St) (H : Heap) (locs : List Loc) (ls : Array Slot), xW D KA layX stX ad ids (xA ad ids s.heap.size) s.heap σ H locs → lv_has ls 9 [(2, .long x2), (4, .long x4), (6, .int x6)] → wX6_commonDivisor_18 ids post  n x2 x4 x6 σ → W p l e rmX6_commonDivisor s m args below meth c H locs 0 0 Q (F0 m 18 ls []) := by
    intro    n
    induction n with
    | zero => intro x2 x4 x6 σ H locs ls hW hl h; exact (h : False).elim
    | succ n ih =>
      intro x2 x4 x6 σ H locs ls hW hl h
      have hk18 : ∀ (x2 : Int64) (x4 : Int64) (x6 : Int32) (σ : St) (H : Heap) (locs : List Loc) (ls : Array Slot), xW D KA layX stX ad ids (xA ad ids s.heap.size) s.heap σ H locs → lv_has ls 9 [(2, .long x2), (4, .long x4), (6, .int x6)] → (wX6_commonDivisor_18 ids post  n) x2 x4 x6 σ → W p l e rmX6_commonDivisor s m args below meth c H locs 0 0 Q (F0 m 18 ls []) := fun x2 x4 x6 σ H locs ls hW hl h => ih x2 x4 x6 σ H locs ls hW hl h
      rw [wX6_commonDivisor_18_s] at h
      try dsimp only at h
      generalize wX6_commonDivisor_18 ids post  n = k18 at h hk18
      refine lv_iload hx hb dX6_commonDivisor_18 (lv_at hl 2 rfl) ?_
      refine lv_sipush (v := 200) hx hb dX6_commonDivisor_20 (by decide) ?_
      refine lv_icmp_ge (tgt := 52) hx hb dX6_commonDivisor_23 (by decide) (fun c1 => ?_) (fun c1 => ?_)
      · have h := h.1 c1
        exact blk52   x2 _ _ _ _ hW (lv_sub hl [0] rfl) h
      · have h := h.2 c1
        refine lv_lload hx hb dX6_commonDivisor_26 (lv_at hl 1 rfl) ?_
        refine lv_lconst (v := 0) hx hb dX6_commonDivisor_28 (by decide) ?_
        refine W.lcmp hx hb dX6_commonDivisor_29 ?_
        refine lv_if_eq (tgt := 52) hx hb dX6_commonDivisor_30 (by decide) (fun c2 => ?_) (fun c2 => ?_)
        · have h := h.1 c2
          exact blk52   x2 _ _ _ _ hW (lv_sub hl [0] rfl) h
        · have h := h.2 c2
          refine lv_lload_n hx hb dX6_commonDivisor_33 rfl (lv_at hl 0 rfl) ?_
          refine lv_lload hx hb dX6_commonDivisor_34 (lv_at hl 1 rfl) ?_
          obtain ⟨hd3, h⟩ := h
          refine lv_lrem hx hb dX6_commonDivisor_36 hd3 ?_
          refine lv_topl (fun v4 hv4 => ?_)
          have h := h v4 hv4
          refine lv_lstore (lv' := [(7, .long v4), (2, .long x2), (4, .long x4), (6, .int x6)]) hx hb dX6_commonDivisor_37 hl (by decide) rfl (fun ls hl => ?_)
          refine lv_lload hx hb dX6_commonDivisor_39 (lv_at hl 2 rfl) ?_
          refine lv_lstore_n (lv' := [(2, .long x4), (7, .long v4), (4, .long x4), (6, .int x6)]) hx hb dX6_commonDivisor_41 rfl hl (by decide) rfl (fun ls hl => ?_)
          refine lv_lload hx hb dX6_commonDivisor_42 (lv_at hl 1 rfl) ?_
          refine lv_lstore (lv' := [(4, .long v4), (2, .long x4), (7, .long v4), (6, .int x6)]) hx hb dX6_commonDivisor_44 hl (by decide) rfl (fun ls hl => ?_)
          obtain ⟨v5, hv5⟩ : ∃ y : Int32, y = x6 + (1 : Int32) := ⟨_, rfl⟩
          have h := h v5 hv5
          refine lv_iinc (v := v5) (lv' := [(6, .int v5), (4, .long v4), (2, .long x4), (7, .long v4)]) hx hb dX6_commonDivisor_46 hl (k := 3) rfl (by rw [hv5]; rfl) (by decide) rfl (fun ls hl => ?_)
          refine lv_goto (tgt := 18) hx hb dX6_commonDivisor_49 (by decide) ?_
          exact hk18 x4 v4 v5 _ _ _ _ hW (lv_sub hl [2, 1, 0] rfl) h
  have main : ∀ (H : Heap) (locs : List Loc) (ls : Array Slot), xW D KA layX stX ad ids (xA ad ids s.heap.size) s.heap σ H locs → lv_has ls 9 [(0, .ref (ad 1)), (1, .int a1)] → W p l e rmX6_commonDivisor s m args below meth c H locs 0 0 Q (F0 m 0 ls []) := by
    intro H locs ls hW hl
    unfold wX6_commonDivisor at h
    refine lv_aload_n hx hb dX6_commonDivisor_0 rfl (lv_at hl 0 rfl) ?_
    refine xgX6_7r hx hb hts hown hK hW 1 hcX6_commonDivisor_X6 (hI 1 (by decide)) lX_1 (hts _ hwX6_commonDivisor_0) (sX_1_7 _) dX6_commonDivisor_1 ?_
    refine lv_iload_n hx hb dX6_commonDivisor_4 rfl (lv_at hl 1 rfl) ?_
    obtain ⟨hi1001, h⟩ := h
    refine x_lald hx hb hK hW 6 (hI 6 (by decide)) lX_6 hi1001 dX6_commonDivisor_5 ?_
    refine lv_topl (fun v1002 hv1002 => ?_)
    have h := h v1002 hv1002
    refine lv_lstore_n (lv' := [(2, .long v1002), (0, .ref (ad 1)), (1, .int a1)]) hx hb dX6_commonDivisor_6 rfl hl (by decide) rfl (fun ls hl => ?_)
    refine lv_aload_n hx hb dX6_commonDivisor_7 rfl (lv_at hl 1 rfl) ?_
    refine xgX6_8r hx hb hts hown hK hW 1 hcX6_commonDivisor_X6 (hI 1 (by decide)) lX_1 (hts _ hwX6_commonDivisor_1) (sX_1_8 _) dX6_commonDivisor_8 ?_
    refine lv_iload_n hx hb dX6_commonDivisor_11 rfl (lv_at hl 2 rfl) ?_
    refine x_lald hx hb hK hW 7 (hI 7 (by decide)) lX_7 hi1001 dX6_commonDivisor_12 ?_
    refine lv_topl (fun v1004 hv1004 => ?_)
    have h := h v1004 hv1004
    refine lv_lstore (lv' := [(4, .long v1004), (2, .long v1002), (0, .ref (ad 1)), (1, .int a1)]) hx hb dX6_commonDivisor_13 hl (by decide) rfl (fun ls hl => ?_)
    refine lv_iconst (v := 0) hx hb dX6_commonDivisor_15 (by decide) ?_
    refine lv_istore (lv' := [(6, .int (0 : Int32)), (4, .long v1004), (2, .long v1002), (0, .ref (ad 1)), (1, .int a1)]) hx hb dX6_commonDivisor_16 hl (by decide) rfl (fun ls hl => ?_)
    obtain ⟨n, h⟩ := h
    exact blk18    n v1002 v1004 (0 : Int32) _ _ _ _ hW (lv_sub hl [2, 1, 0] rfl) h
  exact main _ _ _ hW hl
theorem hwX11_turns_0 : (.fieldLink RX11 10 "FortyBelts" "mill" "LFortyBelts$Mill;" : Cond) ∈ wsX11_turns := (List.mem_cons_of_mem _ (List.mem_append_left _ (List.mem_append_left _ (List.mem_append_left _ (List.mem_append_left _ (List.mem_append_left _ (List.mem_append_left _ (List.mem_append_left _ (List.mem_append_left _ (List.mem_append_left _ (List.mem_append_left _ (List.mem_of_getElem? (i := 1) rfl))))))))))))
theorem hwX11_turns_1 : (.fieldLink RX11 215 "FortyBelts$Mill" "above" "[J" : Cond) ∈ wsX11_turns := (List.mem_cons_of_mem _ (List.mem_append_left _ (List.mem_append_left _ (List.mem_append_left _ (List.mem_append_left _ (List.mem_append_left _ (List.mem_append_left _ (List.mem_append_left _ (List.mem_append_left _ (List.mem_append_left _ (List.mem_append_left _ (List.mem_of_getElem? (i := 2) rfl))))))))))))
theorem hwX11_turns_2 : (.fieldLink RX11 219 "FortyBelts$Mill" "below" "[J" : Cond) ∈ wsX11_turns := (List.mem_cons_of_mem _ (List.mem_append_left _ (List.mem_append_left _ (List.mem_append_left _ (List.mem_append_left _ (List.mem_append_left _ (List.mem_append_left _ (List.mem_append_left _ (List.mem_append_left _ (List.mem_append_left _ (List.mem_append_left _ (List.mem_of_getElem? (i := 3) rfl))))))))))))
theorem hwX11_turns_3 : (.fieldLink RX11 222 "FortyBelts$Mill" "ways" "[I" : Cond) ∈ wsX11_turns := (List.mem_cons_of_mem _ (List.mem_append_left _ (List.mem_append_left _ (List.mem_append_left _ (List.mem_append_left _ (List.mem_append_left _ (List.mem_append_left _ (List.mem_append_left _ (List.mem_append_left _ (List.mem_append_left _ (List.mem_append_left _ (List.mem_of_getElem? (i := 4) rfl))))))))))))
theorem hwX11_turns_4 : (.constantLong RX11 209 (-4611686018427387904) : Cond) ∈ wsX11_turns := (List.mem_cons_of_mem _ (List.mem_append_left _ (List.mem_append_left _ (List.mem_append_left _ (List.mem_append_left _ (List.mem_append_left _ (List.mem_append_left _ (List.mem_append_left _ (List.mem_append_left _ (List.mem_append_left _ (List.mem_append_left _ (List.mem_of_getElem? (i := 0) rfl))))))))))))
theorem hcX11_turns_X11 : ∀ w ∈ wsX110, w ∈ wsX11_turns := fun _ h => (List.mem_cons_of_mem _ (List.mem_append_left _ (List.mem_append_left _ (List.mem_append_left _ (List.mem_append_left _ (List.mem_append_left _ (List.mem_append_left _ (List.mem_append_left _ (List.mem_append_left _ (List.mem_append_right _ h))))))))))
theorem hcX11_turns_X6 : ∀ w ∈ wsX60, w ∈ wsX11_turns := fun _ h => (List.mem_cons_of_mem _ (List.mem_append_left _ (List.mem_append_left _ (List.mem_append_left _ (List.mem_append_left _ (List.mem_append_left _ (List.mem_append_left _ (List.mem_append_left _ (List.mem_append_right _ h)))))))))
set_option maxHeartbeats 4000000 in
set_option maxRecDepth 100000 in
theorem J_X11_turns {D : va_G} {KA : Nat → ClassId} {zs : ZS} {ad : Nat → Nat} {ids : List Nat} {sz : Nat} (l : Launch) (hI : ∀ c, c < 52 → c ∈ ids) {a1 : Int32} {a2 : Int32}  {σ : St} {post : Int64 → St → Prop} (h : wX11_turns ids a1 a2 σ post) : Met l yX11_turns wsX11_turns rmX11_turns (va_Pc [.ref (ad 0), .int a1, .int a2] (xIn D KA zs layX stX ad ids sz σ)) (va_Ql post (xOut D KA layX stX ad ids) (xA ad ids sz)) 0 0 (xA ad ids sz) := by
  refine Met.ofW (cc := cX11_turns) (maxL := 5) (ret := (some .long)) (by decide) rfl ?_
  intro p e s m args below meth c s₁ B hml hv
  obtain ⟨hav, hsz, hK, hZ, hP, hD⟩ := hv
  have hx := B.exec
  have hb := B.bytes
  have hr := B.returns
  have hts := atoms_spec (ws := wsX11_turns) B.pre
  have hown : s.vm.findClass RX11 = some m.cls := findClass_of_methodNamed B.named
  have hlocks := B.notSynchronized
  subst hsz
  have hA : ∀ q : Nat, s.heap.size ≤ q → xA ad ids s.heap.size q := fun q h => Or.inr h
  have hW : xW D KA layX stX ad ids (xA ad ids s.heap.size) s.heap σ s.heap [] := ⟨hP, xA_D (D := D) hD, va_S.rf⟩
  have kr : ∀ (v : Int64) (σ : St) (H : Heap) (locs : List Loc) (ls : Array Slot) (pc : Nat), xW D KA layX stX ad ids (xA ad ids s.heap.size) s.heap σ H locs → post v σ → decode cX11_turns pc = .ok (.lreturn, 1) → W p l e rmX11_turns s m args below meth c H locs 0 0 (MQ below (va_Ql post (xOut D KA layX stX ad ids) (xA ad ids s.heap.size)) args s 0 0 (xA ad ids s.heap.size)) (F0 m pc ls [.long v]) := fun v σ H locs ls pc hW h hd => x_lret hx hb hr hlocks hW h hd
  have hl := lv_entry ([.ref (ad 0), .int a1, .int a2]) (n := 5) (Nat.le_of_ble_eq_true rfl)
  rw [show entryFrame m args 5 = entryFrame m ([.ref (ad 0), .int a1, .int a2] : List Value).toArray 5 from by rw [hav]]
  rw [lg_entry_eq]
  generalize (lg_sl ([.ref (ad 0), .int a1, .int a2]) ++ List.replicate (5 - (lg_sl ([.ref (ad 0), .int a1, .int a2])).length) Slot.unset).toArray = ls at hl ⊢
  have hl : lv_has ls 5 [(0, .ref (ad 0)), (1, .int a1), (2, .int a2)] := hl
  show W p l e rmX11_turns s m args below meth c s.heap [] 0 0 _ _
  generalize MQ below (va_Ql post (xOut D KA layX stX ad ids) (xA ad ids s.heap.size)) args s 0 0 (xA ad ids s.heap.size) = Q at kr ⊢
  have main : ∀ (H : Heap) (locs : List Loc) (ls : Array Slot), xW D KA layX stX ad ids (xA ad ids s.heap.size) s.heap σ H locs → lv_has ls 5 [(0, .ref (ad 0)), (1, .int a1), (2, .int a2)] → W p l e rmX11_turns s m args below meth c H locs 0 0 Q (F0 m 0 ls []) := by
    intro H locs ls hW hl
    unfold wX11_turns at h
    refine lv_aload_n hx hb dX11_turns_0 rfl (lv_at hl 0 rfl) ?_
    refine lv_iload_n hx hb dX11_turns_1 rfl (lv_at hl 1 rfl) ?_
    refine x_calli (va_runV (As := [.int a1]) (rest := []) ⟨hx, hb, hml, hown, hts⟩ (J_X11_isShaft l hI h) (cwV 1 hts gX11_turns_X11_isShaft rfl rfl rfl hdV_X11_isShaft ⟨Nat.le_of_ble_eq_true rfl, Nat.le_of_ble_eq_true rfl⟩) (x_preV (ci := 11) hK hZ hA hW (hI 0 (by decide)) lX_0 rfl) rfl rfl hl.1 rfl (lv_room (Nat.le_of_ble_eq_true rfl)) dX11_turns_2 ⟨Nat.zero_le _, Nat.zero_le _⟩) hW hA (fun r1002 σ1001 H locs h hW => ?_)
    try dsimp only at h
    refine lv_if_ne (tgt := 12) hx hb dX11_turns_5 (by decide) (fun c1003 => ?_) (fun c1003 => ?_)
    · have h := h.1 c1003
      refine lv_aload_n hx hb dX11_turns_12 rfl (lv_at hl 0 rfl) ?_
      refine xgX11_0r hx hb hts hown hK hW 0 hcX11_turns_X11 (hI 0 (by decide)) lX_0 (hts _ hwX11_turns_0) (sX_0_0 _) dX11_turns_13 ?_
      refine x_callv (va_runV (As := []) (rest := []) ⟨hx, hb, hml, hown, hts⟩ (J_X6_spin l hI h) (cwV 0 hts gX11_turns_X6_spin rfl rfl rfl hdV_X6_spin ⟨Nat.le_of_ble_eq_true rfl, Nat.le_of_ble_eq_true rfl⟩) (x_preV (ci := 6) hK hZ hA hW (hI 1 (by decide)) lX_1 rfl) rfl rfl hl.1 rfl (lv_room (Nat.le_of_ble_eq_true rfl)) dX11_turns_16 ⟨Nat.zero_le _, Nat.zero_le _⟩) hW hA (fun σ1004 H locs h hW => ?_)
      try dsimp only at h
      refine lv_aload_n hx hb dX11_turns_19 rfl (lv_at hl 0 rfl) ?_
      refine xgX11_0r hx hb hts hown hK hW 0 hcX11_turns_X11 (hI 0 (by decide)) lX_0 (hts _ hwX11_turns_0) (sX_0_0 _) dX11_turns_20 ?_
      refine lv_iload_n hx hb dX11_turns_23 rfl (lv_at hl 1 rfl) ?_
      refine x_calll (va_runV (As := [.int a1]) (rest := []) ⟨hx, hb, hml, hown, hts⟩ (J_X6_commonDivisor l hI h) (cwV 1 hts gX11_turns_X6_commonDivisor rfl rfl rfl hdV_X6_commonDivisor ⟨Nat.le_of_ble_eq_true rfl, Nat.le_of_ble_eq_true rfl⟩) (x_preV (ci := 6) hK hZ hA hW (hI 1 (by decide)) lX_1 rfl) rfl rfl hl.1 rfl (lv_room (Nat.le_of_ble_eq_true rfl)) dX11_turns_24 ⟨Nat.zero_le _, Nat.zero_le _⟩) hW hA (fun r1006 σ1005 H locs h hW => ?_)
      try dsimp only at h
      refine lv_lstore_n (lv' := [(3, .long r1006), (0, .ref (ad 0)), (1, .int a1), (2, .int a2)]) hx hb dX11_turns_27 rfl hl (by decide) rfl (fun ls hl => ?_)
      refine lv_iload_n hx hb dX11_turns_28 rfl (lv_at hl 3 rfl) ?_
      refine lv_topi (fun v1007 hv1007 => ?_)
      have h := h v1007 hv1007
      obtain ⟨hcase, h⟩ := h
      by_cases hc29_0 : v1007 = (0 : Int32)
      · have h := hcase hc29_0
        clear hcase
        refine lv_tableIn (tgt := 64) hx hb dX11_turns_29 (by rw [hc29_0] <;> decide) (by rw [hc29_0] <;> decide) (by rw [hc29_0]; rfl) (by decide) ?_
        refine lv_aload_n hx hb dX11_turns_64 rfl (lv_at hl 1 rfl) ?_
        refine xgX11_0r hx hb hts hown hK hW 0 hcX11_turns_X11 (hI 0 (by decide)) lX_0 (hts _ hwX11_turns_0) (sX_0_0 _) dX11_turns_65 ?_
        refine xgX6_7r hx hb hts hown hK hW 1 hcX11_turns_X6 (hI 1 (by decide)) lX_1 (hts _ hwX11_turns_1) (sX_1_7 _) dX11_turns_68 ?_
        refine lv_iload_n hx hb dX11_turns_71 rfl (lv_at hl 2 rfl) ?_
        obtain ⟨hi1008, h⟩ := h
        refine x_lald hx hb hK hW 6 (hI 6 (by decide)) lX_6 hi1008 dX11_turns_72 ?_
        refine lv_lload_n hx hb dX11_turns_73 rfl (lv_at hl 0 rfl) ?_
        obtain ⟨hd1009, h⟩ := h
        refine lv_ldiv hx hb dX11_turns_74 hd1009 ?_
        exact kr _ _ _ _ _ _ hW h dX11_turns_75
      clear hcase
      obtain ⟨hcase, h⟩ := h
      by_cases hc29_1 : v1007 = (1 : Int32)
      · have h := hcase hc29_1
        clear hcase
        refine lv_tableIn (tgt := 76) hx hb dX11_turns_29 (by rw [hc29_1] <;> decide) (by rw [hc29_1] <;> decide) (by rw [hc29_1]; rfl) (by decide) ?_
        refine lv_aload_n hx hb dX11_turns_76 rfl (lv_at hl 1 rfl) ?_
        refine xgX11_0r hx hb hts hown hK hW 0 hcX11_turns_X11 (hI 0 (by decide)) lX_0 (hts _ hwX11_turns_0) (sX_0_0 _) dX11_turns_77 ?_
        refine xgX6_8r hx hb hts hown hK hW 1 hcX11_turns_X6 (hI 1 (by decide)) lX_1 (hts _ hwX11_turns_2) (sX_1_8 _) dX11_turns_80 ?_
        refine lv_iload_n hx hb dX11_turns_83 rfl (lv_at hl 2 rfl) ?_
        obtain ⟨hi1010, h⟩ := h
        refine x_lald hx hb hK hW 7 (hI 7 (by decide)) lX_7 hi1010 dX11_turns_84 ?_
        refine lv_lload_n hx hb dX11_turns_85 rfl (lv_at hl 0 rfl) ?_
        obtain ⟨hd1011, h⟩ := h
        refine lv_ldiv hx hb dX11_turns_86 hd1011 ?_
        exact kr _ _ _ _ _ _ hW h dX11_turns_87
      clear hcase
      obtain ⟨hcase, h⟩ := h
      by_cases hc29_2 : v1007 = (2 : Int32)
      · have h := hcase hc29_2
        clear hcase
        refine lv_tableIn (tgt := 88) hx hb dX11_turns_29 (by rw [hc29_2] <;> decide) (by rw [hc29_2] <;> decide) (by rw [hc29_2]; rfl) (by decide) ?_
        refine lv_aload_n hx hb dX11_turns_88 rfl (lv_at hl 1 rfl) ?_
        refine xgX11_0r hx hb hts hown hK hW 0 hcX11_turns_X11 (hI 0 (by decide)) lX_0 (hts _ hwX11_turns_0) (sX_0_0 _) dX11_turns_89 ?_
        refine xgX6_9r hx hb hts hown hK hW 1 hcX11_turns_X6 (hI 1 (by decide)) lX_1 (hts _ hwX11_turns_3) (sX_1_9 _) dX11_turns_92 ?_
        refine lv_iload_n hx hb dX11_turns_95 rfl (lv_at hl 2 rfl) ?_
        obtain ⟨hi1012, h⟩ := h
        refine x_iald hx hb hK hW 8 (hI 8 (by decide)) lX_8 hi1012 dX11_turns_96 ?_
        refine lv_i2l hx hb dX11_turns_97 rfl ?_
        exact kr _ _ _ _ _ _ hW h dX11_turns_98
      clear hcase
      obtain ⟨hcase, h⟩ := h
      by_cases hc29_3 : v1007 = (3 : Int32)
      · have h := hcase hc29_3
        clear hcase
        refine lv_tableIn (tgt := 99) hx hb dX11_turns_29 (by rw [hc29_3] <;> decide) (by rw [hc29_3] <;> decide) (by rw [hc29_3]; rfl) (by decide) ?_
        refine lv_aload_n hx hb dX11_turns_99 rfl (lv_at hl 1 rfl) ?_
        refine xgX11_0r hx hb hts hown hK hW 0 hcX11_turns_X11 (hI 0 (by decide)) lX_0 (hts _ hwX11_turns_0) (sX_0_0 _) dX11_turns_100 ?_
        refine lv_iload_n hx hb dX11_turns_103 rfl (lv_at hl 2 rfl) ?_
        refine x_calli (va_runV (As := [.int a1]) (rest := []) ⟨hx, hb, hml, hown, hts⟩ (J_X6_pulls l hI h) (cwV 1 hts gX11_turns_X6_pulls rfl rfl rfl hdV_X6_pulls ⟨Nat.le_of_ble_eq_true rfl, Nat.le_of_ble_eq_true rfl⟩) (x_preV (ci := 6) hK hZ hA hW (hI 1 (by decide)) lX_1 rfl) rfl rfl hl.1 rfl (lv_room (Nat.le_of_ble_eq_true rfl)) dX11_turns_104 ⟨Nat.zero_le _, Nat.zero_le _⟩) hW hA (fun r1014 σ1013 H locs h hW => ?_)
        try dsimp only at h
        refine lv_i2l hx hb dX11_turns_107 rfl ?_
        exact kr _ _ _ _ _ _ hW h dX11_turns_108
      clear hcase
      obtain ⟨hcase, h⟩ := h
      by_cases hc29_4 : v1007 = (4 : Int32)
      · have h := hcase hc29_4
        clear hcase
        refine lv_tableIn (tgt := 109) hx hb dX11_turns_29 (by rw [hc29_4] <;> decide) (by rw [hc29_4] <;> decide) (by rw [hc29_4]; rfl) (by decide) ?_
        refine lv_aload_n hx hb dX11_turns_109 rfl (lv_at hl 1 rfl) ?_
        refine xgX11_0r hx hb hts hown hK hW 0 hcX11_turns_X11 (hI 0 (by decide)) lX_0 (hts _ hwX11_turns_0) (sX_0_0 _) dX11_turns_110 ?_
        refine lv_iload_n hx hb dX11_turns_113 rfl (lv_at hl 2 rfl) ?_
        refine x_calli (va_runV (As := [.int a1]) (rest := []) ⟨hx, hb, hml, hown, hts⟩ (J_X6_isBent l hI h) (cwV 1 hts gX11_turns_X6_isBent rfl rfl rfl hdV_X6_isBent ⟨Nat.le_of_ble_eq_true rfl, Nat.le_of_ble_eq_true rfl⟩) (x_preV (ci := 6) hK hZ hA hW (hI 1 (by decide)) lX_1 rfl) rfl rfl hl.1 rfl (lv_room (Nat.le_of_ble_eq_true rfl)) dX11_turns_114 ⟨Nat.zero_le _, Nat.zero_le _⟩) hW hA (fun r1016 σ1015 H locs h hW => ?_)
        try dsimp only at h
        refine x_calli (va_runS (As := [.int r1016]) (rest := []) ⟨hx, hb, hml, hown, hts⟩ (J_X11_asBit l hI h) (va_cwS 1 hts gX11_turns_X11_asBit rfl rfl rfl hdS_X11_asBit ⟨Nat.le_of_ble_eq_true rfl, Nat.le_of_ble_eq_true rfl⟩) (x_preS hK hZ hA hW) rfl rfl hl.1 rfl (lv_room (Nat.le_of_ble_eq_true rfl)) dX11_turns_117 ⟨Nat.zero_le _, Nat.zero_le _⟩) hW hA (fun r1018 σ1017 H locs h hW => ?_)
        try dsimp only at h
        refine lv_i2l hx hb dX11_turns_120 rfl ?_
        exact kr _ _ _ _ _ _ hW h dX11_turns_121
      clear hcase
      have h := h ⟨hc29_0, hc29_1, hc29_2, hc29_3, hc29_4⟩
      refine lv_tableOut (tgt := 122) hx hb dX11_turns_29 (tsw_out v1007 (0) (4) (fun k h1 h2 => ?_)) (by decide) ?_
      · rcases (show k = 0 ∨ k = 1 ∨ k = 2 ∨ k = 3 ∨ k = 4 by omega) with rfl | rfl | rfl | rfl | rfl
        · exact hc29_0
        · exact hc29_1
        · exact hc29_2
        · exact hc29_3
        · exact hc29_4
      refine lv_ldc2 hx hb hown (hts _ hwX11_turns_4) dX11_turns_122 ?_
      exact kr _ _ _ _ _ _ hW h dX11_turns_125
    · have h := h.2 c1003
      refine lv_ldc2 hx hb hown (hts _ hwX11_turns_4) dX11_turns_8 ?_
      exact kr _ _ _ _ _ _ hW h dX11_turns_11
  exact main _ _ _ hW hl
theorem hwX11_years_0 : (.fieldLink RX11 10 "FortyBelts" "mill" "LFortyBelts$Mill;" : Cond) ∈ wsX11_years := (List.mem_cons_of_mem _ (List.mem_append_left _ (List.mem_append_left _ (List.mem_append_left _ (List.mem_append_left _ (List.mem_append_left _ (List.mem_append_left _ (List.mem_append_left _ (List.mem_append_left _ (List.mem_append_left _ (List.mem_append_left _ (List.mem_append_left _ (List.mem_of_getElem? (i := 1) rfl)))))))))))))
theorem hwX11_years_1 : (.fieldLink RX11 163 "FortyBelts$Mill" "belts" "[LFortyBelts$Belt;" : Cond) ∈ wsX11_years := (List.mem_cons_of_mem _ (List.mem_append_left _ (List.mem_append_left _ (List.mem_append_left _ (List.mem_append_left _ (List.mem_append_left _ (List.mem_append_left _ (List.mem_append_left _ (List.mem_append_left _ (List.mem_append_left _ (List.mem_append_left _ (List.mem_append_left _ (List.mem_of_getElem? (i := 2) rfl)))))))))))))
theorem hwX11_years_2 : (.constant RX11 291 (999999) : Cond) ∈ wsX11_years := (List.mem_cons_of_mem _ (List.mem_append_left _ (List.mem_append_left _ (List.mem_append_left _ (List.mem_append_left _ (List.mem_append_left _ (List.mem_append_left _ (List.mem_append_left _ (List.mem_append_left _ (List.mem_append_left _ (List.mem_append_left _ (List.mem_append_left _ (List.mem_of_getElem? (i := 0) rfl)))))))))))))
theorem hcX11_years_X11 : ∀ w ∈ wsX110, w ∈ wsX11_years := fun _ h => (List.mem_cons_of_mem _ (List.mem_append_left _ (List.mem_append_left _ (List.mem_append_left _ (List.mem_append_left _ (List.mem_append_left _ (List.mem_append_left _ (List.mem_append_left _ (List.mem_append_left _ (List.mem_append_left _ (List.mem_append_right _ h)))))))))))
theorem hcX11_years_X6 : ∀ w ∈ wsX60, w ∈ wsX11_years := fun _ h => (List.mem_cons_of_mem _ (List.mem_append_left _ (List.mem_append_left _ (List.mem_append_left _ (List.mem_append_left _ (List.mem_append_left _ (List.mem_append_left _ (List.mem_append_left _ (List.mem_append_left _ (List.mem_append_right _ h))))))))))
set_option maxHeartbeats 4000000 in
set_option maxRecDepth 100000 in
theorem J_X11_years {D : va_G} {KA : Nat → ClassId} {zs : ZS} {ad : Nat → Nat} {ids : List Nat} {sz : Nat} (l : Launch) (hI : ∀ c, c < 52 → c ∈ ids) {a1 : Int32} {a2 : Int32} {a3 : Int32}  {σ : St} {post : Int32 → St → Prop} (h : wX11_years ids a1 a2 a3 σ post) : Met l yX11_years wsX11_years rmX11_years (va_Pc [.ref (ad 0), .int a1, .int a2, .int a3] (xIn D KA zs layX stX ad ids sz σ)) (va_Qi post (xOut D KA layX stX ad ids) (xA ad ids sz)) 0 0 (xA ad ids sz) := by
  refine Met.ofW (cc := cX11_years) (maxL := 4) (ret := (some .int)) (by decide) rfl ?_
  intro p e s m args below meth c s₁ B hml hv
  obtain ⟨hav, hsz, hK, hZ, hP, hD⟩ := hv
  have hx := B.exec
  have hb := B.bytes
  have hr := B.returns
  have hts := atoms_spec (ws := wsX11_years) B.pre
  have hown : s.vm.findClass RX11 = some m.cls := findClass_of_methodNamed B.named
  have hlocks := B.notSynchronized
  subst hsz
  have hA : ∀ q : Nat, s.heap.size ≤ q → xA ad ids s.heap.size q := fun q h => Or.inr h
  have hW : xW D KA layX stX ad ids (xA ad ids s.heap.size) s.heap σ s.heap [] := ⟨hP, xA_D (D := D) hD, va_S.rf⟩
  have kr : ∀ (v : Int32) (σ : St) (H : Heap) (locs : List Loc) (ls : Array Slot) (pc : Nat), xW D KA layX stX ad ids (xA ad ids s.heap.size) s.heap σ H locs → post v σ → decode cX11_years pc = .ok (.ireturn, 1) → W p l e rmX11_years s m args below meth c H locs 0 0 (MQ below (va_Qi post (xOut D KA layX stX ad ids) (xA ad ids s.heap.size)) args s 0 0 (xA ad ids s.heap.size)) (F0 m pc ls [.int v]) := fun v σ H locs ls pc hW h hd => x_iret hx hb hr hlocks hW h hd
  have hl := lv_entry ([.ref (ad 0), .int a1, .int a2, .int a3]) (n := 4) (Nat.le_of_ble_eq_true rfl)
  rw [show entryFrame m args 4 = entryFrame m ([.ref (ad 0), .int a1, .int a2, .int a3] : List Value).toArray 4 from by rw [hav]]
  rw [lg_entry_eq]
  generalize (lg_sl ([.ref (ad 0), .int a1, .int a2, .int a3]) ++ List.replicate (4 - (lg_sl ([.ref (ad 0), .int a1, .int a2, .int a3])).length) Slot.unset).toArray = ls at hl ⊢
  have hl : lv_has ls 4 [(0, .ref (ad 0)), (1, .int a1), (2, .int a2), (3, .int a3)] := hl
  show W p l e rmX11_years s m args below meth c s.heap [] 0 0 _ _
  generalize MQ below (va_Qi post (xOut D KA layX stX ad ids) (xA ad ids s.heap.size)) args s 0 0 (xA ad ids s.heap.size) = Q at kr ⊢
  have blk68 : ∀ (s0 : Int32) (σ : St) (H : Heap) (locs : List Loc) (ls : Array Slot), xW D KA layX stX ad ids (xA ad ids s.heap.size) s.heap σ H locs → lv_has ls 4 [] → wX11_years_68 ids post s0 σ → W p l e rmX11_years s m args below meth c H locs 0 0 Q (F0 m 68 ls [.int s0]) := by
    intro   s0 σ H locs ls hW hl h
    unfold wX11_years_68 at h
    exact kr _ _ _ _ _ _ hW h dX11_years_68
  have blk35 : ∀ (x1 : Int32) (x2 : Int32) (x3 : Int32) (σ : St) (H : Heap) (locs : List Loc) (ls : Array Slot), xW D KA layX stX ad ids (xA ad ids s.heap.size) s.heap σ H locs → lv_has ls 4 [(0, .ref (ad 0)), (1, .int x1), (2, .int x2), (3, .int x3)] → wX11_years_35 ids post x1 x2 x3 σ → W p l e rmX11_years s m args below meth c H locs 0 0 Q (F0 m 35 ls []) := by
    intro   x1 x2 x3 σ H locs ls hW hl h
    unfold wX11_years_35 at h
    refine lv_aload_n hx hb dX11_years_35 rfl (lv_at hl 0 rfl) ?_
    refine xgX11_0r hx hb hts hown hK hW 0 hcX11_years_X11 (hI 0 (by decide)) lX_0 (hts _ hwX11_years_0) (sX_0_0 _) dX11_years_36 ?_
    refine x_callv (va_runV (As := []) (rest := []) ⟨hx, hb, hml, hown, hts⟩ (J_X6_spin l hI h) (cwV 0 hts gX11_years_X6_spin rfl rfl rfl hdV_X6_spin ⟨Nat.le_of_ble_eq_true rfl, Nat.le_of_ble_eq_true rfl⟩) (x_preV (ci := 6) hK hZ hA hW (hI 1 (by decide)) lX_1 rfl) rfl rfl hl.1 rfl (lv_room (Nat.le_of_ble_eq_true rfl)) dX11_years_39 ⟨Nat.zero_le _, Nat.zero_le _⟩) hW hA (fun σ1 H locs h hW => ?_)
    try dsimp only at h
    refine lv_iload_n hx hb dX11_years_42 rfl (lv_at hl 3 rfl) ?_
    refine lv_if_ne (tgt := 63) hx hb dX11_years_43 (by decide) (fun c2 => ?_) (fun c2 => ?_)
    · have h := h.1 c2
      refine lv_aload_n hx hb dX11_years_63 rfl (lv_at hl 0 rfl) ?_
      refine lv_iload_n hx hb dX11_years_64 rfl (lv_at hl 2 rfl) ?_
      refine x_calli (va_runV (As := [.int x2]) (rest := []) ⟨hx, hb, hml, hown, hts⟩ (J_X11_firstWorn l hI h) (cwV 1 hts gX11_years_X11_firstWorn rfl rfl rfl hdV_X11_firstWorn ⟨Nat.le_of_ble_eq_true rfl, Nat.le_of_ble_eq_true rfl⟩) (x_preV (ci := 11) hK hZ hA hW (hI 0 (by decide)) lX_0 rfl) rfl rfl hl.1 rfl (lv_room (Nat.le_of_ble_eq_true rfl)) dX11_years_65 ⟨Nat.zero_le _, Nat.zero_le _⟩) hW hA (fun r4 σ3 H locs h hW => ?_)
      try dsimp only at h
      exact blk68   r4 _ _ _ _ hW (lv_sub hl [] rfl) h
    · have h := h.2 c2
      refine lv_aload_n hx hb dX11_years_46 rfl (lv_at hl 0 rfl) ?_
      refine lv_aload_n hx hb dX11_years_47 rfl (lv_at hl 0 rfl) ?_
      refine xgX11_0r hx hb hts hown hK hW 0 hcX11_years_X11 (hI 0 (by decide)) lX_0 (hts _ hwX11_years_0) (sX_0_0 _) dX11_years_48 ?_
      refine xgX6_12r hx hb hts hown hK hW 1 hcX11_years_X6 (hI 1 (by decide)) lX_1 (hts _ hwX11_years_1) (sX_1_12 _) dX11_years_51 ?_
      refine lv_iload_n hx hb dX11_years_54 rfl (lv_at hl 1 rfl) ?_
      obtain ⟨hi5, h⟩ := h
      obtain ⟨o6, hr7, ok_o6, h⟩ := h
      refine x_ald hx hb hK hW 11 0 (hI 11 (by decide)) lX_11 rfl hi5 ((sX_11 _ _).trans hr7) dX11_years_55 ?_
      refine lv_iload_n hx hb dX11_years_56 rfl (lv_at hl 2 rfl) ?_
      refine x_calli (va_runV (As := [.ref (ad o6), .int x2]) (rest := []) ⟨hx, hb, hml, hown, hts⟩ (J_X11_days l hI ok_o6 h) (cwV 2 hts gX11_years_X11_days rfl rfl rfl hdV_X11_days ⟨Nat.le_of_ble_eq_true rfl, Nat.le_of_ble_eq_true rfl⟩) (x_preV (ci := 11) hK hZ hA hW (hI 0 (by decide)) lX_0 rfl) rfl rfl hl.1 rfl (lv_room (Nat.le_of_ble_eq_true rfl)) dX11_years_57 ⟨Nat.zero_le _, Nat.zero_le _⟩) hW hA (fun r9 σ8 H locs h hW => ?_)
      try dsimp only at h
      refine lv_goto (tgt := 68) hx hb dX11_years_60 (by decide) ?_
      exact blk68   r9 _ _ _ _ hW (lv_sub hl [] rfl) h
  have blk32 : ∀ (σ : St) (H : Heap) (locs : List Loc) (ls : Array Slot), xW D KA layX stX ad ids (xA ad ids s.heap.size) s.heap σ H locs → lv_has ls 4 [] → wX11_years_32 ids post  σ → W p l e rmX11_years s m args below meth c H locs 0 0 Q (F0 m 32 ls []) := by
    intro    σ H locs ls hW hl h
    unfold wX11_years_32 at h
    refine lv_bipush (v := (-2)) hx hb dX11_years_32 (by decide) ?_
    exact kr _ _ _ _ _ _ hW h dX11_years_34
  have main : ∀ (H : Heap) (locs : List Loc) (ls : Array Slot), xW D KA layX stX ad ids (xA ad ids s.heap.size) s.heap σ H locs → lv_has ls 4 [(0, .ref (ad 0)), (1, .int a1), (2, .int a2), (3, .int a3)] → W p l e rmX11_years s m args below meth c H locs 0 0 Q (F0 m 0 ls []) := by
    intro H locs ls hW hl
    unfold wX11_years at h
    refine lv_iload_n hx hb dX11_years_0 rfl (lv_at hl 2 rfl) ?_
    refine lv_iconst (v := 1) hx hb dX11_years_1 (by decide) ?_
    refine lv_ldcw hx hb hown (hts _ hwX11_years_2) dX11_years_2 ?_
    refine x_calli (va_runS (As := [.int a2, .int (1 : Int32), .int (999999 : Int32)]) (rest := []) ⟨hx, hb, hml, hown, hts⟩ (J_X11_within l hI h) (va_cwS 3 hts gX11_years_X11_within rfl rfl rfl hdS_X11_within ⟨Nat.le_of_ble_eq_true rfl, Nat.le_of_ble_eq_true rfl⟩) (x_preS hK hZ hA hW) rfl rfl hl.1 rfl (lv_room (Nat.le_of_ble_eq_true rfl)) dX11_years_5 ⟨Nat.zero_le _, Nat.zero_le _⟩) hW hA (fun r1002 σ1001 H locs h hW => ?_)
    try dsimp only at h
    refine lv_if_eq (tgt := 32) hx hb dX11_years_8 (by decide) (fun c1003 => ?_) (fun c1003 => ?_)
    · have h := h.1 c1003
      exact blk32    _ _ _ _ hW (lv_sub hl [] rfl) h
    · have h := h.2 c1003
      refine lv_iload_n hx hb dX11_years_11 rfl (lv_at hl 3 rfl) ?_
      refine lv_iconst (v := 0) hx hb dX11_years_12 (by decide) ?_
      refine lv_iconst (v := 1) hx hb dX11_years_13 (by decide) ?_
      refine x_calli (va_runS (As := [.int a3, .int (0 : Int32), .int (1 : Int32)]) (rest := []) ⟨hx, hb, hml, hown, hts⟩ (J_X11_within l hI h) (va_cwS 3 hts gX11_years_X11_within rfl rfl rfl hdS_X11_within ⟨Nat.le_of_ble_eq_true rfl, Nat.le_of_ble_eq_true rfl⟩) (x_preS hK hZ hA hW) rfl rfl hl.1 rfl (lv_room (Nat.le_of_ble_eq_true rfl)) dX11_years_14 ⟨Nat.zero_le _, Nat.zero_le _⟩) hW hA (fun r1005 σ1004 H locs h hW => ?_)
      try dsimp only at h
      refine lv_if_eq (tgt := 32) hx hb dX11_years_17 (by decide) (fun c1006 => ?_) (fun c1006 => ?_)
      · have h := h.1 c1006
        exact blk32    _ _ _ _ hW (lv_sub hl [] rfl) h
      · have h := h.2 c1006
        refine lv_iload_n hx hb dX11_years_20 rfl (lv_at hl 3 rfl) ?_
        refine lv_if_ne (tgt := 35) hx hb dX11_years_21 (by decide) (fun c1007 => ?_) (fun c1007 => ?_)
        · have h := h.1 c1007
          exact blk35   a1 a2 a3 _ _ _ _ hW (lv_sub hl [0, 1, 2, 3] rfl) h
        · have h := h.2 c1007
          refine lv_aload_n hx hb dX11_years_24 rfl (lv_at hl 0 rfl) ?_
          refine lv_iload_n hx hb dX11_years_25 rfl (lv_at hl 1 rfl) ?_
          refine x_calli (va_runV (As := [.int a1]) (rest := []) ⟨hx, hb, hml, hown, hts⟩ (J_X11_isBelt l hI h) (cwV 1 hts gX11_years_X11_isBelt rfl rfl rfl hdV_X11_isBelt ⟨Nat.le_of_ble_eq_true rfl, Nat.le_of_ble_eq_true rfl⟩) (x_preV (ci := 11) hK hZ hA hW (hI 0 (by decide)) lX_0 rfl) rfl rfl hl.1 rfl (lv_room (Nat.le_of_ble_eq_true rfl)) dX11_years_26 ⟨Nat.zero_le _, Nat.zero_le _⟩) hW hA (fun r1009 σ1008 H locs h hW => ?_)
          try dsimp only at h
          refine lv_if_ne (tgt := 35) hx hb dX11_years_29 (by decide) (fun c1010 => ?_) (fun c1010 => ?_)
          · have h := h.1 c1010
            exact blk35   a1 a2 a3 _ _ _ _ hW (lv_sub hl [0, 1, 2, 3] rfl) h
          · have h := h.2 c1010
            exact blk32    _ _ _ _ hW (lv_sub hl [] rfl) h
  exact main _ _ _ hW hl
theorem hwX12_isSign_0 : (.fieldLink RX12 316 "FortyBeltsModel" "bad" "Z" : Cond) ∈ wsX12_isSign := (List.mem_cons_of_mem _ (List.mem_append_left _ (List.mem_of_getElem? (i := 0) rfl)))
theorem hwX12_isSign_1 : (.fieldLink RX12 293 "FortyBeltsModel" "token" "I" : Cond) ∈ wsX12_isSign := (List.mem_cons_of_mem _ (List.mem_append_left _ (List.mem_of_getElem? (i := 1) rfl)))
theorem hwX12_isSign_2 : (.fieldLink RX12 300 "FortyBeltsModel" "tokenWorth" "J" : Cond) ∈ wsX12_isSign := (List.mem_cons_of_mem _ (List.mem_append_left _ (List.mem_of_getElem? (i := 2) rfl)))
theorem hcX12_isSign_X12 : ∀ w ∈ wsX120, w ∈ wsX12_isSign := fun _ h => (List.mem_cons_of_mem _ (List.mem_append_right _ h))
set_option maxHeartbeats 4000000 in
set_option maxRecDepth 100000 in
theorem J_X12_isSign {D : va_G} {KA : Nat → ClassId} {zs : ZS} {ad : Nat → Nat} {ids : List Nat} {sz : Nat} (l : Launch) (hI : ∀ c, c < 35 → c ∈ ids) {a1 : Int32}  {σ : St} {post : Int32 → St → Prop} (h : wX12_isSign  a1 σ post) : Met l yX12_isSign wsX12_isSign rmX12_isSign (va_Pc [.ref (ad 0), .int a1] (xIn D KA zs layR stR ad ids sz σ)) (va_Qi post (xOut D KA layR stR ad ids) (xA ad ids sz)) 0 0 (xA ad ids sz) := by
  refine Met.ofW (cc := cX12_isSign) (maxL := 2) (ret := (some .boolean)) (by decide) rfl ?_
  intro p e s m args below meth c s₁ B hml hv
  obtain ⟨hav, hsz, hK, hZ, hP, hD⟩ := hv
  have hx := B.exec
  have hb := B.bytes
  have hr := B.returns
  have hts := atoms_spec (ws := wsX12_isSign) B.pre
  have hown : s.vm.findClass RX12 = some m.cls := findClass_of_methodNamed B.named
  have hlocks := B.notSynchronized
  subst hsz
  have hA : ∀ q : Nat, s.heap.size ≤ q → xA ad ids s.heap.size q := fun q h => Or.inr h
  have hW : xW D KA layR stR ad ids (xA ad ids s.heap.size) s.heap σ s.heap [] := ⟨hP, xA_D (D := D) hD, va_S.rf⟩
  have kr : ∀ (v : Int32) (σ : St) (H : Heap) (locs : List Loc) (ls : Array Slot) (pc : Nat), xW D KA layR stR ad ids (xA ad ids s.heap.size) s.heap σ H locs → isB v → post v σ → decode cX12_isSign pc = .ok (.ireturn, 1) → W p l e rmX12_isSign s m args below meth c H locs 0 0 (MQ below (va_Qi post (xOut D KA layR stR ad ids) (xA ad ids s.heap.size)) args s 0 0 (xA ad ids s.heap.size)) (F0 m pc ls [.int v]) := fun v σ H locs ls pc hW hz h hd => x_zret hx hb hr hlocks hW hz h hd
  have hl := lv_entry ([.ref (ad 0), .int a1]) (n := 2) (Nat.le_of_ble_eq_true rfl)
  rw [show entryFrame m args 2 = entryFrame m ([.ref (ad 0), .int a1] : List Value).toArray 2 from by rw [hav]]
  rw [lg_entry_eq]
  generalize (lg_sl ([.ref (ad 0), .int a1]) ++ List.replicate (2 - (lg_sl ([.ref (ad 0), .int a1])).length) Slot.unset).toArray = ls at hl ⊢
  have hl : lv_has ls 2 [(0, .ref (ad 0)), (1, .int a1)] := hl
  show W p l e rmX12_isSign s m args below meth c s.heap [] 0 0 _ _
  generalize MQ below (va_Qi post (xOut D KA layR stR ad ids) (xA ad ids s.heap.size)) args s 0 0 (xA ad ids s.heap.size) = Q at kr ⊢
  have blk30 : ∀ (s0 : Int32) (σ : St) (H : Heap) (locs : List Loc) (ls : Array Slot), xW D KA layR stR ad ids (xA ad ids s.heap.size) s.heap σ H locs → lv_has ls 2 [] → wX12_isSign_30 post s0 σ → W p l e rmX12_isSign s m args below meth c H locs 0 0 Q (F0 m 30 ls [.int s0]) := by
    intro   s0 σ H locs ls hW hl h
    unfold wX12_isSign_30 at h
    obtain ⟨hz1, h⟩ := h
    exact kr _ _ _ _ _ _ hW hz1 h dX12_isSign_30
  have blk29 : ∀ (σ : St) (H : Heap) (locs : List Loc) (ls : Array Slot), xW D KA layR stR ad ids (xA ad ids s.heap.size) s.heap σ H locs → lv_has ls 2 [] → wX12_isSign_29 post  σ → W p l e rmX12_isSign s m args below meth c H locs 0 0 Q (F0 m 29 ls []) := by
    intro    σ H locs ls hW hl h
    unfold wX12_isSign_29 at h
    refine lv_iconst (v := 0) hx hb dX12_isSign_29 (by decide) ?_
    exact blk30   (0 : Int32) _ _ _ _ hW (lv_sub hl [] rfl) h
  have main : ∀ (H : Heap) (locs : List Loc) (ls : Array Slot), xW D KA layR stR ad ids (xA ad ids s.heap.size) s.heap σ H locs → lv_has ls 2 [(0, .ref (ad 0)), (1, .int a1)] → W p l e rmX12_isSign s m args below meth c H locs 0 0 Q (F0 m 0 ls []) := by
    intro H locs ls hW hl
    unfold wX12_isSign at h
    refine lv_aload_n hx hb dX12_isSign_0 rfl (lv_at hl 0 rfl) ?_
    refine xgX12_43 hx hb hts hown hK hW 0 hcX12_isSign_X12 (hI 0 (by decide)) lR_0 (hts _ hwX12_isSign_0) dX12_isSign_1 ?_
    refine lv_if_ne (tgt := 29) hx hb dX12_isSign_4 (by decide) (fun c1001 => ?_) (fun c1001 => ?_)
    · have h := h.1 c1001
      exact blk29    _ _ _ _ hW (lv_sub hl [] rfl) h
    · have h := h.2 c1001
      refine lv_aload_n hx hb dX12_isSign_7 rfl (lv_at hl 0 rfl) ?_
      refine xgX12_38 hx hb hts hown hK hW 0 hcX12_isSign_X12 (hI 0 (by decide)) lR_0 (hts _ hwX12_isSign_1) dX12_isSign_8 ?_
      refine lv_iconst (v := 3) hx hb dX12_isSign_11 (by decide) ?_
      refine lv_icmp_ne (tgt := 29) hx hb dX12_isSign_12 (by decide) (fun c1002 => ?_) (fun c1002 => ?_)
      · have h := h.1 c1002
        exact blk29    _ _ _ _ hW (lv_sub hl [] rfl) h
      · have h := h.2 c1002
        refine lv_aload_n hx hb dX12_isSign_15 rfl (lv_at hl 0 rfl) ?_
        refine xgX12_40 hx hb hts hown hK hW 0 hcX12_isSign_X12 (hI 0 (by decide)) lR_0 (hts _ hwX12_isSign_2) dX12_isSign_16 ?_
        refine lv_iload_n hx hb dX12_isSign_19 rfl (lv_at hl 1 rfl) ?_
        refine lv_i2l hx hb dX12_isSign_20 rfl ?_
        refine W.lcmp hx hb dX12_isSign_21 ?_
        refine lv_if_ne (tgt := 29) hx hb dX12_isSign_22 (by decide) (fun c1003 => ?_) (fun c1003 => ?_)
        · have h := h.1 c1003
          exact blk29    _ _ _ _ hW (lv_sub hl [] rfl) h
        · have h := h.2 c1003
          refine lv_iconst (v := 1) hx hb dX12_isSign_25 (by decide) ?_
          refine lv_goto (tgt := 30) hx hb dX12_isSign_26 (by decide) ?_
          exact blk30   (1 : Int32) _ _ _ _ hW (lv_sub hl [] rfl) h
  exact main _ _ _ hW hl
theorem hwX12_byteAt_0 : (.fieldLink RX12 278 "FortyBeltsModel" "size" "I" : Cond) ∈ wsX12_byteAt := (List.mem_cons_of_mem _ (List.mem_append_left _ (List.mem_of_getElem? (i := 0) rfl)))
theorem hwX12_byteAt_1 : (.fieldLink RX12 13 "FortyBeltsModel" "texts" "[I" : Cond) ∈ wsX12_byteAt := (List.mem_cons_of_mem _ (List.mem_append_left _ (List.mem_of_getElem? (i := 1) rfl)))
theorem hwX12_byteAt_2 : (.fieldLink RX12 281 "FortyBeltsModel" "textFrom" "I" : Cond) ∈ wsX12_byteAt := (List.mem_cons_of_mem _ (List.mem_append_left _ (List.mem_of_getElem? (i := 2) rfl)))
theorem hcX12_byteAt_X12 : ∀ w ∈ wsX120, w ∈ wsX12_byteAt := fun _ h => (List.mem_cons_of_mem _ (List.mem_append_right _ h))
set_option maxHeartbeats 4000000 in
set_option maxRecDepth 100000 in
theorem J_X12_byteAt {D : va_G} {KA : Nat → ClassId} {zs : ZS} {ad : Nat → Nat} {ids : List Nat} {sz : Nat} (l : Launch) (hI : ∀ c, c < 35 → c ∈ ids) {a1 : Int32}  {σ : St} {post : Int32 → St → Prop} (h : wX12_byteAt  a1 σ post) : Met l yX12_byteAt wsX12_byteAt rmX12_byteAt (va_Pc [.ref (ad 0), .int a1] (xIn D KA zs layR stR ad ids sz σ)) (va_Qi post (xOut D KA layR stR ad ids) (xA ad ids sz)) 0 0 (xA ad ids sz) := by
  refine Met.ofW (cc := cX12_byteAt) (maxL := 2) (ret := (some .int)) (by decide) rfl ?_
  intro p e s m args below meth c s₁ B hml hv
  obtain ⟨hav, hsz, hK, hZ, hP, hD⟩ := hv
  have hx := B.exec
  have hb := B.bytes
  have hr := B.returns
  have hts := atoms_spec (ws := wsX12_byteAt) B.pre
  have hown : s.vm.findClass RX12 = some m.cls := findClass_of_methodNamed B.named
  have hlocks := B.notSynchronized
  subst hsz
  have hA : ∀ q : Nat, s.heap.size ≤ q → xA ad ids s.heap.size q := fun q h => Or.inr h
  have hW : xW D KA layR stR ad ids (xA ad ids s.heap.size) s.heap σ s.heap [] := ⟨hP, xA_D (D := D) hD, va_S.rf⟩
  have kr : ∀ (v : Int32) (σ : St) (H : Heap) (locs : List Loc) (ls : Array Slot) (pc : Nat), xW D KA layR stR ad ids (xA ad ids s.heap.size) s.heap σ H locs → post v σ → decode cX12_byteAt pc = .ok (.ireturn, 1) → W p l e rmX12_byteAt s m args below meth c H locs 0 0 (MQ below (va_Qi post (xOut D KA layR stR ad ids) (xA ad ids s.heap.size)) args s 0 0 (xA ad ids s.heap.size)) (F0 m pc ls [.int v]) := fun v σ H locs ls pc hW h hd => x_iret hx hb hr hlocks hW h hd
  have hl := lv_entry ([.ref (ad 0), .int a1]) (n := 2) (Nat.le_of_ble_eq_true rfl)
  rw [show entryFrame m args 2 = entryFrame m ([.ref (ad 0), .int a1] : List Value).toArray 2 from by rw [hav]]
  rw [lg_entry_eq]
  generalize (lg_sl ([.ref (ad 0), .int a1]) ++ List.replicate (2 - (lg_sl ([.ref (ad 0), .int a1])).length) Slot.unset).toArray = ls at hl ⊢
  have hl : lv_has ls 2 [(0, .ref (ad 0)), (1, .int a1)] := hl
  show W p l e rmX12_byteAt s m args below meth c s.heap [] 0 0 _ _
  generalize MQ below (va_Qi post (xOut D KA layR stR ad ids) (xA ad ids s.heap.size)) args s 0 0 (xA ad ids s.heap.size) = Q at kr ⊢
  have blk23 : ∀ (s0 : Int32) (σ : St) (H : Heap) (locs : List Loc) (ls : Array Slot), xW D KA layR stR ad ids (xA ad ids s.heap.size) s.heap σ H locs → lv_has ls 2 [] → wX12_byteAt_23 post s0 σ → W p l e rmX12_byteAt s m args below meth c H locs 0 0 Q (F0 m 23 ls [.int s0]) := by
    intro   s0 σ H locs ls hW hl h
    unfold wX12_byteAt_23 at h
    exact kr _ _ _ _ _ _ hW h dX12_byteAt_23
  have main : ∀ (H : Heap) (locs : List Loc) (ls : Array Slot), xW D KA layR stR ad ids (xA ad ids s.heap.size) s.heap σ H locs → lv_has ls 2 [(0, .ref (ad 0)), (1, .int a1)] → W p l e rmX12_byteAt s m args below meth c H locs 0 0 Q (F0 m 0 ls []) := by
    intro H locs ls hW hl
    unfold wX12_byteAt at h
    refine lv_iload_n hx hb dX12_byteAt_0 rfl (lv_at hl 1 rfl) ?_
    refine lv_aload_n hx hb dX12_byteAt_1 rfl (lv_at hl 0 rfl) ?_
    refine xgX12_37 hx hb hts hown hK hW 0 hcX12_byteAt_X12 (hI 0 (by decide)) lR_0 (hts _ hwX12_byteAt_0) dX12_byteAt_2 ?_
    refine lv_icmp_ge (tgt := 22) hx hb dX12_byteAt_5 (by decide) (fun c1001 => ?_) (fun c1001 => ?_)
    · have h := h.1 c1001
      refine lv_iconst (v := (-1)) hx hb dX12_byteAt_22 (by decide) ?_
      exact blk23   (-1 : Int32) _ _ _ _ hW (lv_sub hl [] rfl) h
    · have h := h.2 c1001
      refine lv_aload_n hx hb dX12_byteAt_8 rfl (lv_at hl 0 rfl) ?_
      refine xgX12_1r hx hb hts hown hK hW 0 hcX12_byteAt_X12 (hI 0 (by decide)) lR_0 (hts _ hwX12_byteAt_1) (sR_0_1 _) dX12_byteAt_9 ?_
      refine lv_aload_n hx hb dX12_byteAt_12 rfl (lv_at hl 0 rfl) ?_
      refine xgX12_36 hx hb hts hown hK hW 0 hcX12_byteAt_X12 (hI 0 (by decide)) lR_0 (hts _ hwX12_byteAt_2) dX12_byteAt_13 ?_
      refine lv_iload_n hx hb dX12_byteAt_16 rfl (lv_at hl 1 rfl) ?_
      refine lv_iadd hx hb dX12_byteAt_17 ?_
      obtain ⟨hi1002, h⟩ := h
      refine x_iald hx hb hK hW 1 (hI 1 (by decide)) lR_1 hi1002 dX12_byteAt_18 ?_
      refine lv_goto (tgt := 23) hx hb dX12_byteAt_19 (by decide) ?_
      exact blk23   (gI σ 1 ((gI σ 0 36) + a1).toNatClampNeg) _ _ _ _ hW (lv_sub hl [] rfl) h
  exact main _ _ _ hW hl
set_option maxHeartbeats 4000000 in
set_option maxRecDepth 100000 in
theorem J_X12_in {D : va_G} {KA : Nat → ClassId} {zs : ZS} {ad : Nat → Nat} {ids : List Nat} {sz : Nat} (l : Launch) (hI : ∀ c, c < 35 → c ∈ ids) {a0 : Int64} {a2 : Int64} {a4 : Int64}  {σ : St} {post : Int32 → St → Prop} (h : wX12_in  a0 a2 a4 σ post) : Met l yX12_in wsX12_in rmX12_in (va_Pc [.long a0, .long a2, .long a4] (xIn D KA zs layR stR ad ids sz σ)) (va_Qi post (xOut D KA layR stR ad ids) (xA ad ids sz)) 0 0 (xA ad ids sz) := by
  refine Met.ofW (cc := cX12_in) (maxL := 6) (ret := (some .boolean)) (by decide) rfl ?_
  intro p e s m args below meth c s₁ B hml hv
  obtain ⟨hav, hsz, hK, hZ, hP, hD⟩ := hv
  have hx := B.exec
  have hb := B.bytes
  have hr := B.returns
  have hts := atoms_spec (ws := wsX12_in) B.pre
  have hown : s.vm.findClass RX12 = some m.cls := findClass_of_methodNamed B.named
  have hlocks := B.notSynchronized
  subst hsz
  have hA : ∀ q : Nat, s.heap.size ≤ q → xA ad ids s.heap.size q := fun q h => Or.inr h
  have hW : xW D KA layR stR ad ids (xA ad ids s.heap.size) s.heap σ s.heap [] := ⟨hP, xA_D (D := D) hD, va_S.rf⟩
  have kr : ∀ (v : Int32) (σ : St) (H : Heap) (locs : List Loc) (ls : Array Slot) (pc : Nat), xW D KA layR stR ad ids (xA ad ids s.heap.size) s.heap σ H locs → isB v → post v σ → decode cX12_in pc = .ok (.ireturn, 1) → W p l e rmX12_in s m args below meth c H locs 0 0 (MQ below (va_Qi post (xOut D KA layR stR ad ids) (xA ad ids s.heap.size)) args s 0 0 (xA ad ids s.heap.size)) (F0 m pc ls [.int v]) := fun v σ H locs ls pc hW hz h hd => x_zret hx hb hr hlocks hW hz h hd
  have hl := lv_entry ([.long a0, .long a2, .long a4]) (n := 6) (Nat.le_of_ble_eq_true rfl)
  rw [show entryFrame m args 6 = entryFrame m ([.long a0, .long a2, .long a4] : List Value).toArray 6 from by rw [hav]]
  rw [lg_entry_eq]
  generalize (lg_sl ([.long a0, .long a2, .long a4]) ++ List.replicate (6 - (lg_sl ([.long a0, .long a2, .long a4])).length) Slot.unset).toArray = ls at hl ⊢
  have hl : lv_has ls 6 [(0, .long a0), (2, .long a2), (4, .long a4)] := hl
  show W p l e rmX12_in s m args below meth c s.heap [] 0 0 _ _
  generalize MQ below (va_Qi post (xOut D KA layR stR ad ids) (xA ad ids s.heap.size)) args s 0 0 (xA ad ids s.heap.size) = Q at kr ⊢
  have blk18 : ∀ (s0 : Int32) (σ : St) (H : Heap) (locs : List Loc) (ls : Array Slot), xW D KA layR stR ad ids (xA ad ids s.heap.size) s.heap σ H locs → lv_has ls 6 [] → wX12_in_18 post s0 σ → W p l e rmX12_in s m args below meth c H locs 0 0 Q (F0 m 18 ls [.int s0]) := by
    intro   s0 σ H locs ls hW hl h
    unfold wX12_in_18 at h
    obtain ⟨hz1, h⟩ := h
    exact kr _ _ _ _ _ _ hW hz1 h dX12_in_18
  have blk17 : ∀ (σ : St) (H : Heap) (locs : List Loc) (ls : Array Slot), xW D KA layR stR ad ids (xA ad ids s.heap.size) s.heap σ H locs → lv_has ls 6 [] → wX12_in_17 post  σ → W p l e rmX12_in s m args below meth c H locs 0 0 Q (F0 m 17 ls []) := by
    intro    σ H locs ls hW hl h
    unfold wX12_in_17 at h
    refine lv_iconst (v := 0) hx hb dX12_in_17 (by decide) ?_
    exact blk18   (0 : Int32) _ _ _ _ hW (lv_sub hl [] rfl) h
  have main : ∀ (H : Heap) (locs : List Loc) (ls : Array Slot), xW D KA layR stR ad ids (xA ad ids s.heap.size) s.heap σ H locs → lv_has ls 6 [(0, .long a0), (2, .long a2), (4, .long a4)] → W p l e rmX12_in s m args below meth c H locs 0 0 Q (F0 m 0 ls []) := by
    intro H locs ls hW hl
    unfold wX12_in at h
    refine lv_lload_n hx hb dX12_in_0 rfl (lv_at hl 0 rfl) ?_
    refine lv_lload_n hx hb dX12_in_1 rfl (lv_at hl 1 rfl) ?_
    refine W.lcmp hx hb dX12_in_2 ?_
    refine lv_if_lt (tgt := 17) hx hb dX12_in_3 (by decide) (fun c1001 => ?_) (fun c1001 => ?_)
    · have h := h.1 c1001
      exact blk17    _ _ _ _ hW (lv_sub hl [] rfl) h
    · have h := h.2 c1001
      refine lv_lload_n hx hb dX12_in_6 rfl (lv_at hl 0 rfl) ?_
      refine lv_lload hx hb dX12_in_7 (lv_at hl 2 rfl) ?_
      refine W.lcmp hx hb dX12_in_9 ?_
      refine lv_if_gt (tgt := 17) hx hb dX12_in_10 (by decide) (fun c1002 => ?_) (fun c1002 => ?_)
      · have h := h.1 c1002
        exact blk17    _ _ _ _ hW (lv_sub hl [] rfl) h
      · have h := h.2 c1002
        refine lv_iconst (v := 1) hx hb dX12_in_13 (by decide) ?_
        refine lv_goto (tgt := 18) hx hb dX12_in_14 (by decide) ?_
        exact blk18   (1 : Int32) _ _ _ _ hW (lv_sub hl [] rfl) h
  exact main _ _ _ hW hl
theorem hwX12_next_0 : (.fieldLink RX12 293 "FortyBeltsModel" "token" "I" : Cond) ∈ wsX12_next := (List.mem_cons_of_mem _ (List.mem_append_left _ (List.mem_of_getElem? (i := 2) rfl)))
theorem hwX12_next_1 : (.fieldLink RX12 300 "FortyBeltsModel" "tokenWorth" "J" : Cond) ∈ wsX12_next := (List.mem_cons_of_mem _ (List.mem_append_left _ (List.mem_of_getElem? (i := 6) rfl)))
theorem hwX12_next_2 : (.fieldLink RX12 284 "FortyBeltsModel" "here" "I" : Cond) ∈ wsX12_next := (List.mem_cons_of_mem _ (List.mem_append_left _ (List.mem_of_getElem? (i := 0) rfl)))
theorem hwX12_next_3 : (.constantLong RX12 310 (48) : Cond) ∈ wsX12_next := (List.mem_cons_of_mem _ (List.mem_append_left _ (List.mem_of_getElem? (i := 10) rfl)))
theorem hwX12_next_4 : (.constantLong RX12 312 (57) : Cond) ∈ wsX12_next := (List.mem_cons_of_mem _ (List.mem_append_left _ (List.mem_of_getElem? (i := 11) rfl)))
theorem hwX12_next_5 : (.constantLong RX12 314 (10) : Cond) ∈ wsX12_next := (List.mem_cons_of_mem _ (List.mem_append_left _ (List.mem_of_getElem? (i := 12) rfl)))
theorem hwX12_next_6 : (.constantLong RX12 296 (97) : Cond) ∈ wsX12_next := (List.mem_cons_of_mem _ (List.mem_append_left _ (List.mem_of_getElem? (i := 4) rfl)))
theorem hwX12_next_7 : (.constantLong RX12 298 (122) : Cond) ∈ wsX12_next := (List.mem_cons_of_mem _ (List.mem_append_left _ (List.mem_of_getElem? (i := 5) rfl)))
theorem hwX12_next_8 : (.constantLong RX12 308 (-1) : Cond) ∈ wsX12_next := (List.mem_cons_of_mem _ (List.mem_append_left _ (List.mem_of_getElem? (i := 9) rfl)))
theorem hwX12_next_9 : (.constantLong RX12 304 (27) : Cond) ∈ wsX12_next := (List.mem_cons_of_mem _ (List.mem_append_left _ (List.mem_of_getElem? (i := 7) rfl)))
theorem hwX12_next_10 : (.constantLong RX12 306 (96) : Cond) ∈ wsX12_next := (List.mem_cons_of_mem _ (List.mem_append_left _ (List.mem_of_getElem? (i := 8) rfl)))
theorem hwX12_next_11 : (.fieldLink RX12 290 "FortyBeltsModel" "tokenAt" "I" : Cond) ∈ wsX12_next := (List.mem_cons_of_mem _ (List.mem_append_left _ (List.mem_of_getElem? (i := 1) rfl)))
theorem hwX12_next_12 : (.fieldLink RX12 278 "FortyBeltsModel" "size" "I" : Cond) ∈ wsX12_next := (List.mem_cons_of_mem _ (List.mem_append_left _ (List.mem_of_getElem? (i := 3) rfl)))
theorem hcX12_next_X12 : ∀ w ∈ wsX120, w ∈ wsX12_next := fun _ h => (List.mem_cons_of_mem _ (List.mem_append_right _ h))
set_option maxHeartbeats 4000000 in
set_option maxRecDepth 100000 in
theorem J_X12_next {D : va_G} {KA : Nat → ClassId} {zs : ZS} {ad : Nat → Nat} {ids : List Nat} {sz : Nat} (l : Launch) (hI : ∀ c, c < 35 → c ∈ ids)   {σ : St} {post : St → Prop} (h : wX12_next   σ post) : Met l yX12_next wsX12_next rmX12_next (va_Pc [.ref (ad 0)] (xIn D KA zs layR stR ad ids sz σ)) (va_Qv post (xOut D KA layR stR ad ids) (xA ad ids sz)) 0 0 (xA ad ids sz) := by
  refine Met.ofW (cc := cX12_next) (maxL := 3) (ret := none) (by decide) rfl ?_
  intro p e s m args below meth c s₁ B hml hv
  obtain ⟨hav, hsz, hK, hZ, hP, hD⟩ := hv
  have hx := B.exec
  have hb := B.bytes
  have hr := B.returns
  have hts := atoms_spec (ws := wsX12_next) B.pre
  have hown : s.vm.findClass RX12 = some m.cls := findClass_of_methodNamed B.named
  have hlocks := B.notSynchronized
  subst hsz
  have hA : ∀ q : Nat, s.heap.size ≤ q → xA ad ids s.heap.size q := fun q h => Or.inr h
  have hW : xW D KA layR stR ad ids (xA ad ids s.heap.size) s.heap σ s.heap [] := ⟨hP, xA_D (D := D) hD, va_S.rf⟩
  have kr : ∀ (σ : St) (H : Heap) (locs : List Loc) (ls : Array Slot) (pc : Nat), xW D KA layR stR ad ids (xA ad ids s.heap.size) s.heap σ H locs → post σ → decode cX12_next pc = .ok (.return_, 1) → W p l e rmX12_next s m args below meth c H locs 0 0 (MQ below (va_Qv post (xOut D KA layR stR ad ids) (xA ad ids s.heap.size)) args s 0 0 (xA ad ids s.heap.size)) (F0 m pc ls []) := fun σ H locs ls pc hW h hd => x_vret hx hb hr hlocks hW h hd
  have hl := lv_entry ([.ref (ad 0)]) (n := 3) (Nat.le_of_ble_eq_true rfl)
  rw [show entryFrame m args 3 = entryFrame m ([.ref (ad 0)] : List Value).toArray 3 from by rw [hav]]
  rw [lg_entry_eq]
  generalize (lg_sl ([.ref (ad 0)]) ++ List.replicate (3 - (lg_sl ([.ref (ad 0)])).length) Slot.unset).toArray = ls at hl ⊢
  have hl : lv_has ls 3 [(0, .ref (ad 0))] := hl
  show W p l e rmX12_next s m args below meth c s.heap [] 0 0 _ _
  generalize MQ below (va_Qv post (xOut D KA layR stR ad ids) (xA ad ids s.heap.size)) args s 0 0 (xA ad ids s.heap.size) = Q at kr ⊢
  have blk372 : ∀ (σ : St) (H : Heap) (locs : List Loc) (ls : Array Slot), xW D KA layR stR ad ids (xA ad ids s.heap.size) s.heap σ H locs → lv_has ls 3 [] → wX12_next_372 post  σ → W p l e rmX12_next s m args below meth c H locs 0 0 Q (F0 m 372 ls []) := by
    intro    σ H locs ls hW hl h
    unfold wX12_next_372 at h
    exact kr _ _ _ _ _ hW h dX12_next_372
  have blk351 : ∀ (x1 : Int32) (σ : St) (H : Heap) (locs : List Loc) (ls : Array Slot), xW D KA layR stR ad ids (xA ad ids s.heap.size) s.heap σ H locs → lv_has ls 3 [(0, .ref (ad 0)), (1, .int x1)] → wX12_next_351 post x1 σ → W p l e rmX12_next s m args below meth c H locs 0 0 Q (F0 m 351 ls []) := by
    intro   x1 σ H locs ls hW hl h
    unfold wX12_next_351 at h
    refine lv_aload_n hx hb dX12_next_351 rfl (lv_at hl 0 rfl) ?_
    refine lv_iconst (v := 3) hx hb dX12_next_352 (by decide) ?_
    refine xpX12_38 hx hb hts hown hK hW 0 hcX12_next_X12 (hI 0 (by decide)) lR_0 (hts _ hwX12_next_0) dX12_next_353 (fun σ1 H locs hσ1 hW => ?_)
    have h := h σ1 hσ1
    refine lv_aload_n hx hb dX12_next_356 rfl (lv_at hl 0 rfl) ?_
    refine lv_iload_n hx hb dX12_next_357 rfl (lv_at hl 1 rfl) ?_
    refine lv_i2l hx hb dX12_next_358 rfl ?_
    refine xpX12_40 hx hb hts hown hK hW 0 hcX12_next_X12 (hI 0 (by decide)) lR_0 (hts _ hwX12_next_1) dX12_next_359 (fun σ2 H locs hσ2 hW => ?_)
    have h := h σ2 hσ2
    refine lv_aload_n hx hb dX12_next_362 rfl (lv_at hl 0 rfl) ?_
    refine lv_dup hx hb dX12_next_363 rfl ?_
    refine xgX12_41 hx hb hts hown hK hW 0 hcX12_next_X12 (hI 0 (by decide)) lR_0 (hts _ hwX12_next_2) dX12_next_364 ?_
    refine lv_iconst (v := 1) hx hb dX12_next_367 (by decide) ?_
    refine lv_iadd hx hb dX12_next_368 ?_
    refine xpX12_41 hx hb hts hown hK hW 0 hcX12_next_X12 (hI 0 (by decide)) lR_0 (hts _ hwX12_next_2) dX12_next_369 (fun σ3 H locs hσ3 hW => ?_)
    have h := h σ3 hσ3
    exact blk372    _ _ _ _ hW (lv_sub hl [] rfl) h
  have blk297 : ∀ (s1 : Int32) (σ : St) (H : Heap) (locs : List Loc) (ls : Array Slot), xW D KA layR stR ad ids (xA ad ids s.heap.size) s.heap σ H locs → lv_has ls 3 [] → wX12_next_297 post s1 σ → W p l e rmX12_next s m args below meth c H locs 0 0 Q (F0 m 297 ls [.int s1, .ref (ad 0)]) := by
    intro   s1 σ H locs ls hW hl h
    unfold wX12_next_297 at h
    refine xpX12_38 hx hb hts hown hK hW 0 hcX12_next_X12 (hI 0 (by decide)) lR_0 (hts _ hwX12_next_0) dX12_next_297 (fun σ4 H locs hσ4 hW => ?_)
    have h := h σ4 hσ4
    refine lv_goto (tgt := 372) hx hb dX12_next_300 (by decide) ?_
    exact blk372    _ _ _ _ hW (lv_sub hl [] rfl) h
  have blk267 : ∀ (k211 : Int32 → St → Prop) (hk211 : ∀ (x2 : Int32) (σ : St) (H : Heap) (locs : List Loc) (ls : Array Slot), xW D KA layR stR ad ids (xA ad ids s.heap.size) s.heap σ H locs → lv_has ls 3 [(0, .ref (ad 0)), (2, .int x2)] → k211 x2 σ → W p l e rmX12_next s m args below meth c H locs 0 0 Q (F0 m 211 ls [])) (x2 : Int32) (s1 : Int64) (σ : St) (H : Heap) (locs : List Loc) (ls : Array Slot), xW D KA layR stR ad ids (xA ad ids s.heap.size) s.heap σ H locs → lv_has ls 3 [(0, .ref (ad 0)), (2, .int x2)] → wX12_next_267 k211 post x2 s1 σ → W p l e rmX12_next s m args below meth c H locs 0 0 Q (F0 m 267 ls [.long s1, .ref (ad 0)]) := by
    intro  k211 hk211 x2 s1 σ H locs ls hW hl h
    unfold wX12_next_267 at h
    refine xpX12_40 hx hb hts hown hK hW 0 hcX12_next_X12 (hI 0 (by decide)) lR_0 (hts _ hwX12_next_1) dX12_next_267 (fun σ5 H locs hσ5 hW => ?_)
    have h := h σ5 hσ5
    obtain ⟨v6, hv6⟩ : ∃ y : Int32, y = x2 + (1 : Int32) := ⟨_, rfl⟩
    have h := h v6 hv6
    refine lv_iinc (v := v6) (lv' := [(2, .int v6), (0, .ref (ad 0))]) hx hb dX12_next_270 hl (k := 1) rfl (by rw [hv6]; rfl) (by decide) rfl (fun ls hl => ?_)
    refine lv_aload_n hx hb dX12_next_273 rfl (lv_at hl 1 rfl) ?_
    refine lv_dup hx hb dX12_next_274 rfl ?_
    refine xgX12_41 hx hb hts hown hK hW 0 hcX12_next_X12 (hI 0 (by decide)) lR_0 (hts _ hwX12_next_2) dX12_next_275 ?_
    refine lv_iconst (v := 1) hx hb dX12_next_278 (by decide) ?_
    refine lv_iadd hx hb dX12_next_279 ?_
    refine xpX12_41 hx hb hts hown hK hW 0 hcX12_next_X12 (hI 0 (by decide)) lR_0 (hts _ hwX12_next_2) dX12_next_280 (fun σ7 H locs hσ7 hW => ?_)
    have h := h σ7 hσ7
    refine lv_goto (tgt := 211) hx hb dX12_next_283 (by decide) ?_
    exact hk211 v6 _ _ _ _ hW (lv_sub hl [1, 0] rfl) h
  have blk211 : ∀ (n : Nat) (x2 : Int32) (σ : St) (H : Heap) (locs : List Loc) (ls : Array Slot), xW D KA layR stR ad ids (xA ad ids s.heap.size) s.heap σ H locs → lv_has ls 3 [(0, .ref (ad 0)), (2, .int x2)] → wX12_next_211 post  n x2 σ → W p l e rmX12_next s m args below meth c H locs 0 0 Q (F0 m 211 ls []) := by
    intro    n
    induction n with
    | zero => intro x2 σ H locs ls hW hl h; exact (h : False).elim
    | succ n ih =>
      intro x2 σ H locs ls hW hl h
      have hk211 : ∀ (x2 : Int32) (σ : St) (H : Heap) (locs : List Loc) (ls : Array Slot), xW D KA layR stR ad ids (xA ad ids s.heap.size) s.heap σ H locs → lv_has ls 3 [(0, .ref (ad 0)), (2, .int x2)] → (wX12_next_211 post  n) x2 σ → W p l e rmX12_next s m args below meth c H locs 0 0 Q (F0 m 211 ls []) := fun x2 σ H locs ls hW hl h => ih x2 σ H locs ls hW hl h
      rw [wX12_next_211_s] at h
      try dsimp only at h
      generalize wX12_next_211 post  n = k211 at h hk211
      refine lv_aload_n hx hb dX12_next_211 rfl (lv_at hl 0 rfl) ?_
      refine lv_aload_n hx hb dX12_next_212 rfl (lv_at hl 0 rfl) ?_
      refine xgX12_41 hx hb hts hown hK hW 0 hcX12_next_X12 (hI 0 (by decide)) lR_0 (hts _ hwX12_next_2) dX12_next_213 ?_
      refine x_calli (va_runV (As := [.int (gI σ 0 41)]) (rest := []) ⟨hx, hb, hml, hown, hts⟩ (J_X12_byteAt l hI h) (cwV 1 hts gX12_next_X12_byteAt rfl rfl rfl hdV_X12_byteAt ⟨Nat.le_of_ble_eq_true rfl, Nat.le_of_ble_eq_true rfl⟩) (x_preV (ci := 12) hK hZ hA hW (hI 0 (by decide)) lR_0 rfl) rfl rfl hl.1 rfl (lv_room (Nat.le_of_ble_eq_true rfl)) dX12_next_216 ⟨Nat.zero_le _, Nat.zero_le _⟩) hW hA (fun r9 σ8 H locs h hW => ?_)
      try dsimp only at h
      refine lv_i2l hx hb dX12_next_219 rfl ?_
      refine lv_ldc2 hx hb hown (hts _ hwX12_next_3) dX12_next_220 ?_
      refine lv_ldc2 hx hb hown (hts _ hwX12_next_4) dX12_next_223 ?_
      refine x_calli (va_runS (As := [.long (r9.toInt64), .long (48 : Int64), .long (57 : Int64)]) (rest := []) ⟨hx, hb, hml, hown, hts⟩ (J_X12_in l hI h) (va_cwS 3 hts gX12_next_X12_in rfl rfl rfl hdS_X12_in ⟨Nat.le_of_ble_eq_true rfl, Nat.le_of_ble_eq_true rfl⟩) (x_preS hK hZ hA hW) rfl rfl hl.1 rfl (lv_room (Nat.le_of_ble_eq_true rfl)) dX12_next_226 ⟨Nat.zero_le _, Nat.zero_le _⟩) hW hA (fun r11 σ10 H locs h hW => ?_)
      try dsimp only at h
      refine lv_if_eq (tgt := 286) hx hb dX12_next_229 (by decide) (fun c12 => ?_) (fun c12 => ?_)
      · have h := h.1 c12
        refine lv_aload_n hx hb dX12_next_286 rfl (lv_at hl 0 rfl) ?_
        refine lv_iload_n hx hb dX12_next_287 rfl (lv_at hl 1 rfl) ?_
        refine lv_iconst (v := 4) hx hb dX12_next_288 (by decide) ?_
        refine lv_icmp_le (tgt := 296) hx hb dX12_next_289 (by decide) (fun c13 => ?_) (fun c13 => ?_)
        · have h := h.1 c13
          refine lv_iconst (v := 2) hx hb dX12_next_296 (by decide) ?_
          exact blk297   (2 : Int32) _ _ _ _ hW (lv_sub hl [] rfl) h
        · have h := h.2 c13
          refine lv_iconst (v := 4) hx hb dX12_next_292 (by decide) ?_
          refine lv_goto (tgt := 297) hx hb dX12_next_293 (by decide) ?_
          exact blk297   (4 : Int32) _ _ _ _ hW (lv_sub hl [] rfl) h
      · have h := h.2 c12
        refine lv_aload_n hx hb dX12_next_232 rfl (lv_at hl 0 rfl) ?_
        refine lv_iload_n hx hb dX12_next_233 rfl (lv_at hl 1 rfl) ?_
        refine lv_iconst (v := 4) hx hb dX12_next_234 (by decide) ?_
        refine lv_icmp_ge (tgt := 263) hx hb dX12_next_235 (by decide) (fun c14 => ?_) (fun c14 => ?_)
        · have h := h.1 c14
          refine lv_aload_n hx hb dX12_next_263 rfl (lv_at hl 0 rfl) ?_
          refine xgX12_40 hx hb hts hown hK hW 0 hcX12_next_X12 (hI 0 (by decide)) lR_0 (hts _ hwX12_next_1) dX12_next_264 ?_
          exact blk267  k211 hk211 x2 (gJ σ10 0 40) _ _ _ _ hW (lv_sub hl [0, 1] rfl) h
        · have h := h.2 c14
          refine lv_ldc2 hx hb hown (hts _ hwX12_next_5) dX12_next_238 ?_
          refine lv_aload_n hx hb dX12_next_241 rfl (lv_at hl 0 rfl) ?_
          refine xgX12_40 hx hb hts hown hK hW 0 hcX12_next_X12 (hI 0 (by decide)) lR_0 (hts _ hwX12_next_1) dX12_next_242 ?_
          refine lv_lmul hx hb dX12_next_245 ?_
          refine lv_aload_n hx hb dX12_next_246 rfl (lv_at hl 0 rfl) ?_
          refine lv_aload_n hx hb dX12_next_247 rfl (lv_at hl 0 rfl) ?_
          refine xgX12_41 hx hb hts hown hK hW 0 hcX12_next_X12 (hI 0 (by decide)) lR_0 (hts _ hwX12_next_2) dX12_next_248 ?_
          refine x_calli (va_runV (As := [.int (gI σ10 0 41)]) (rest := [.long ((10 : Int64) * (gJ σ10 0 40)), .ref (ad 0)]) ⟨hx, hb, hml, hown, hts⟩ (J_X12_byteAt l hI h) (cwV 1 hts gX12_next_X12_byteAt rfl rfl rfl hdV_X12_byteAt ⟨Nat.le_of_ble_eq_true rfl, Nat.le_of_ble_eq_true rfl⟩) (x_preV (ci := 12) hK hZ hA hW (hI 0 (by decide)) lR_0 rfl) rfl rfl hl.1 rfl (lv_room (Nat.le_of_ble_eq_true rfl)) dX12_next_251 ⟨Nat.zero_le _, Nat.zero_le _⟩) hW hA (fun r16 σ15 H locs h hW => ?_)
          try dsimp only at h
          refine lv_i2l hx hb dX12_next_254 rfl ?_
          refine lv_ladd hx hb dX12_next_255 ?_
          refine lv_ldc2 hx hb hown (hts _ hwX12_next_3) dX12_next_256 ?_
          refine lv_lsub hx hb dX12_next_259 ?_
          refine lv_goto (tgt := 267) hx hb dX12_next_260 (by decide) ?_
          exact blk267  k211 hk211 x2 ((((10 : Int64) * (gJ σ10 0 40)) + (r16.toInt64)) - (48 : Int64)) _ _ _ _ hW (lv_sub hl [0, 1] rfl) h
  have blk163 : ∀ (k107 : Int32 → St → Prop) (hk107 : ∀ (x2 : Int32) (σ : St) (H : Heap) (locs : List Loc) (ls : Array Slot), xW D KA layR stR ad ids (xA ad ids s.heap.size) s.heap σ H locs → lv_has ls 3 [(0, .ref (ad 0)), (2, .int x2)] → k107 x2 σ → W p l e rmX12_next s m args below meth c H locs 0 0 Q (F0 m 107 ls [])) (x2 : Int32) (s1 : Int64) (σ : St) (H : Heap) (locs : List Loc) (ls : Array Slot), xW D KA layR stR ad ids (xA ad ids s.heap.size) s.heap σ H locs → lv_has ls 3 [(0, .ref (ad 0)), (2, .int x2)] → wX12_next_163 k107 post x2 s1 σ → W p l e rmX12_next s m args below meth c H locs 0 0 Q (F0 m 163 ls [.long s1, .ref (ad 0)]) := by
    intro  k107 hk107 x2 s1 σ H locs ls hW hl h
    unfold wX12_next_163 at h
    refine xpX12_40 hx hb hts hown hK hW 0 hcX12_next_X12 (hI 0 (by decide)) lR_0 (hts _ hwX12_next_1) dX12_next_163 (fun σ17 H locs hσ17 hW => ?_)
    have h := h σ17 hσ17
    obtain ⟨v18, hv18⟩ : ∃ y : Int32, y = x2 + (1 : Int32) := ⟨_, rfl⟩
    have h := h v18 hv18
    refine lv_iinc (v := v18) (lv' := [(2, .int v18), (0, .ref (ad 0))]) hx hb dX12_next_166 hl (k := 1) rfl (by rw [hv18]; rfl) (by decide) rfl (fun ls hl => ?_)
    refine lv_aload_n hx hb dX12_next_169 rfl (lv_at hl 1 rfl) ?_
    refine lv_dup hx hb dX12_next_170 rfl ?_
    refine xgX12_41 hx hb hts hown hK hW 0 hcX12_next_X12 (hI 0 (by decide)) lR_0 (hts _ hwX12_next_2) dX12_next_171 ?_
    refine lv_iconst (v := 1) hx hb dX12_next_174 (by decide) ?_
    refine lv_iadd hx hb dX12_next_175 ?_
    refine xpX12_41 hx hb hts hown hK hW 0 hcX12_next_X12 (hI 0 (by decide)) lR_0 (hts _ hwX12_next_2) dX12_next_176 (fun σ19 H locs hσ19 hW => ?_)
    have h := h σ19 hσ19
    refine lv_goto (tgt := 107) hx hb dX12_next_179 (by decide) ?_
    exact hk107 v18 _ _ _ _ hW (lv_sub hl [1, 0] rfl) h
  have blk107 : ∀ (n : Nat) (x2 : Int32) (σ : St) (H : Heap) (locs : List Loc) (ls : Array Slot), xW D KA layR stR ad ids (xA ad ids s.heap.size) s.heap σ H locs → lv_has ls 3 [(0, .ref (ad 0)), (2, .int x2)] → wX12_next_107 post  n x2 σ → W p l e rmX12_next s m args below meth c H locs 0 0 Q (F0 m 107 ls []) := by
    intro    n
    induction n with
    | zero => intro x2 σ H locs ls hW hl h; exact (h : False).elim
    | succ n ih =>
      intro x2 σ H locs ls hW hl h
      have hk107 : ∀ (x2 : Int32) (σ : St) (H : Heap) (locs : List Loc) (ls : Array Slot), xW D KA layR stR ad ids (xA ad ids s.heap.size) s.heap σ H locs → lv_has ls 3 [(0, .ref (ad 0)), (2, .int x2)] → (wX12_next_107 post  n) x2 σ → W p l e rmX12_next s m args below meth c H locs 0 0 Q (F0 m 107 ls []) := fun x2 σ H locs ls hW hl h => ih x2 σ H locs ls hW hl h
      rw [wX12_next_107_s] at h
      try dsimp only at h
      generalize wX12_next_107 post  n = k107 at h hk107
      refine lv_aload_n hx hb dX12_next_107 rfl (lv_at hl 0 rfl) ?_
      refine lv_aload_n hx hb dX12_next_108 rfl (lv_at hl 0 rfl) ?_
      refine xgX12_41 hx hb hts hown hK hW 0 hcX12_next_X12 (hI 0 (by decide)) lR_0 (hts _ hwX12_next_2) dX12_next_109 ?_
      refine x_calli (va_runV (As := [.int (gI σ 0 41)]) (rest := []) ⟨hx, hb, hml, hown, hts⟩ (J_X12_byteAt l hI h) (cwV 1 hts gX12_next_X12_byteAt rfl rfl rfl hdV_X12_byteAt ⟨Nat.le_of_ble_eq_true rfl, Nat.le_of_ble_eq_true rfl⟩) (x_preV (ci := 12) hK hZ hA hW (hI 0 (by decide)) lR_0 rfl) rfl rfl hl.1 rfl (lv_room (Nat.le_of_ble_eq_true rfl)) dX12_next_112 ⟨Nat.zero_le _, Nat.zero_le _⟩) hW hA (fun r21 σ20 H locs h hW => ?_)
      try dsimp only at h
      refine lv_i2l hx hb dX12_next_115 rfl ?_
      refine lv_ldc2 hx hb hown (hts _ hwX12_next_6) dX12_next_116 ?_
      refine lv_ldc2 hx hb hown (hts _ hwX12_next_7) dX12_next_119 ?_
      refine x_calli (va_runS (As := [.long (r21.toInt64), .long (97 : Int64), .long (122 : Int64)]) (rest := []) ⟨hx, hb, hml, hown, hts⟩ (J_X12_in l hI h) (va_cwS 3 hts gX12_next_X12_in rfl rfl rfl hdS_X12_in ⟨Nat.le_of_ble_eq_true rfl, Nat.le_of_ble_eq_true rfl⟩) (x_preS hK hZ hA hW) rfl rfl hl.1 rfl (lv_room (Nat.le_of_ble_eq_true rfl)) dX12_next_122 ⟨Nat.zero_le _, Nat.zero_le _⟩) hW hA (fun r23 σ22 H locs h hW => ?_)
      try dsimp only at h
      refine lv_if_eq (tgt := 182) hx hb dX12_next_125 (by decide) (fun c24 => ?_) (fun c24 => ?_)
      · have h := h.1 c24
        refine lv_goto (tgt := 372) hx hb dX12_next_182 (by decide) ?_
        exact blk372    _ _ _ _ hW (lv_sub hl [] rfl) h
      · have h := h.2 c24
        refine lv_aload_n hx hb dX12_next_128 rfl (lv_at hl 0 rfl) ?_
        refine lv_iload_n hx hb dX12_next_129 rfl (lv_at hl 1 rfl) ?_
        refine lv_bipush (v := 8) hx hb dX12_next_130 (by decide) ?_
        refine lv_icmp_ge (tgt := 160) hx hb dX12_next_132 (by decide) (fun c25 => ?_) (fun c25 => ?_)
        · have h := h.1 c25
          refine lv_ldc2 hx hb hown (hts _ hwX12_next_8) dX12_next_160 ?_
          exact blk163  k107 hk107 x2 (-1 : Int64) _ _ _ _ hW (lv_sub hl [0, 1] rfl) h
        · have h := h.2 c25
          refine lv_ldc2 hx hb hown (hts _ hwX12_next_9) dX12_next_135 ?_
          refine lv_aload_n hx hb dX12_next_138 rfl (lv_at hl 0 rfl) ?_
          refine xgX12_40 hx hb hts hown hK hW 0 hcX12_next_X12 (hI 0 (by decide)) lR_0 (hts _ hwX12_next_1) dX12_next_139 ?_
          refine lv_lmul hx hb dX12_next_142 ?_
          refine lv_aload_n hx hb dX12_next_143 rfl (lv_at hl 0 rfl) ?_
          refine lv_aload_n hx hb dX12_next_144 rfl (lv_at hl 0 rfl) ?_
          refine xgX12_41 hx hb hts hown hK hW 0 hcX12_next_X12 (hI 0 (by decide)) lR_0 (hts _ hwX12_next_2) dX12_next_145 ?_
          refine x_calli (va_runV (As := [.int (gI σ22 0 41)]) (rest := [.long ((27 : Int64) * (gJ σ22 0 40)), .ref (ad 0)]) ⟨hx, hb, hml, hown, hts⟩ (J_X12_byteAt l hI h) (cwV 1 hts gX12_next_X12_byteAt rfl rfl rfl hdV_X12_byteAt ⟨Nat.le_of_ble_eq_true rfl, Nat.le_of_ble_eq_true rfl⟩) (x_preV (ci := 12) hK hZ hA hW (hI 0 (by decide)) lR_0 rfl) rfl rfl hl.1 rfl (lv_room (Nat.le_of_ble_eq_true rfl)) dX12_next_148 ⟨Nat.zero_le _, Nat.zero_le _⟩) hW hA (fun r27 σ26 H locs h hW => ?_)
          try dsimp only at h
          refine lv_i2l hx hb dX12_next_151 rfl ?_
          refine lv_ladd hx hb dX12_next_152 ?_
          refine lv_ldc2 hx hb hown (hts _ hwX12_next_10) dX12_next_153 ?_
          refine lv_lsub hx hb dX12_next_156 ?_
          refine lv_goto (tgt := 163) hx hb dX12_next_157 (by decide) ?_
          exact blk163  k107 hk107 x2 ((((27 : Int64) * (gJ σ22 0 40)) + (r27.toInt64)) - (96 : Int64)) _ _ _ _ hW (lv_sub hl [0, 1] rfl) h
  have blk26 : ∀ (k0 : St → Prop) (hk0 : ∀ (σ : St) (H : Heap) (locs : List Loc) (ls : Array Slot), xW D KA layR stR ad ids (xA ad ids s.heap.size) s.heap σ H locs → lv_has ls 3 [(0, .ref (ad 0))] → k0  σ → W p l e rmX12_next s m args below meth c H locs 0 0 Q (F0 m 0 ls []))  (σ : St) (H : Heap) (locs : List Loc) (ls : Array Slot), xW D KA layR stR ad ids (xA ad ids s.heap.size) s.heap σ H locs → lv_has ls 3 [(0, .ref (ad 0))] → wX12_next_26 k0 post  σ → W p l e rmX12_next s m args below meth c H locs 0 0 Q (F0 m 26 ls []) := by
    intro  k0 hk0  σ H locs ls hW hl h
    unfold wX12_next_26 at h
    refine lv_aload_n hx hb dX12_next_26 rfl (lv_at hl 0 rfl) ?_
    refine lv_dup hx hb dX12_next_27 rfl ?_
    refine xgX12_41 hx hb hts hown hK hW 0 hcX12_next_X12 (hI 0 (by decide)) lR_0 (hts _ hwX12_next_2) dX12_next_28 ?_
    refine lv_iconst (v := 1) hx hb dX12_next_31 (by decide) ?_
    refine lv_iadd hx hb dX12_next_32 ?_
    refine xpX12_41 hx hb hts hown hK hW 0 hcX12_next_X12 (hI 0 (by decide)) lR_0 (hts _ hwX12_next_2) dX12_next_33 (fun σ28 H locs hσ28 hW => ?_)
    have h := h σ28 hσ28
    refine lv_goto (tgt := 0) hx hb dX12_next_36 (by decide) ?_
    exact hk0  _ _ _ _ hW (lv_sub hl [0] rfl) h
  have blk0 : ∀ (n : Nat)  (σ : St) (H : Heap) (locs : List Loc) (ls : Array Slot), xW D KA layR stR ad ids (xA ad ids s.heap.size) s.heap σ H locs → lv_has ls 3 [(0, .ref (ad 0))] → wX12_next_0 post  n  σ → W p l e rmX12_next s m args below meth c H locs 0 0 Q (F0 m 0 ls []) := by
    intro    n
    induction n with
    | zero => intro  σ H locs ls hW hl h; exact (h : False).elim
    | succ n ih =>
      intro  σ H locs ls hW hl h
      have hk0 : ∀  (σ : St) (H : Heap) (locs : List Loc) (ls : Array Slot), xW D KA layR stR ad ids (xA ad ids s.heap.size) s.heap σ H locs → lv_has ls 3 [(0, .ref (ad 0))] → (wX12_next_0 post  n)  σ → W p l e rmX12_next s m args below meth c H locs 0 0 Q (F0 m 0 ls []) := fun  σ H locs ls hW hl h => ih  σ H locs ls hW hl h
      rw [wX12_next_0_s] at h
      try dsimp only at h
      generalize wX12_next_0 post  n = k0 at h hk0
      refine lv_aload_n hx hb dX12_next_0 rfl (lv_at hl 0 rfl) ?_
      refine lv_aload_n hx hb dX12_next_1 rfl (lv_at hl 0 rfl) ?_
      refine xgX12_41 hx hb hts hown hK hW 0 hcX12_next_X12 (hI 0 (by decide)) lR_0 (hts _ hwX12_next_2) dX12_next_2 ?_
      refine x_calli (va_runV (As := [.int (gI σ 0 41)]) (rest := []) ⟨hx, hb, hml, hown, hts⟩ (J_X12_byteAt l hI h) (cwV 1 hts gX12_next_X12_byteAt rfl rfl rfl hdV_X12_byteAt ⟨Nat.le_of_ble_eq_true rfl, Nat.le_of_ble_eq_true rfl⟩) (x_preV (ci := 12) hK hZ hA hW (hI 0 (by decide)) lR_0 rfl) rfl rfl hl.1 rfl (lv_room (Nat.le_of_ble_eq_true rfl)) dX12_next_5 ⟨Nat.zero_le _, Nat.zero_le _⟩) hW hA (fun r30 σ29 H locs h hW => ?_)
      try dsimp only at h
      refine lv_bipush (v := 32) hx hb dX12_next_8 (by decide) ?_
      refine lv_icmp_eq (tgt := 26) hx hb dX12_next_10 (by decide) (fun c31 => ?_) (fun c31 => ?_)
      · have h := h.1 c31
        exact blk26  k0 hk0  _ _ _ _ hW (lv_sub hl [0] rfl) h
      · have h := h.2 c31
        refine lv_aload_n hx hb dX12_next_13 rfl (lv_at hl 0 rfl) ?_
        refine lv_aload_n hx hb dX12_next_14 rfl (lv_at hl 0 rfl) ?_
        refine xgX12_41 hx hb hts hown hK hW 0 hcX12_next_X12 (hI 0 (by decide)) lR_0 (hts _ hwX12_next_2) dX12_next_15 ?_
        refine x_calli (va_runV (As := [.int (gI σ29 0 41)]) (rest := []) ⟨hx, hb, hml, hown, hts⟩ (J_X12_byteAt l hI h) (cwV 1 hts gX12_next_X12_byteAt rfl rfl rfl hdV_X12_byteAt ⟨Nat.le_of_ble_eq_true rfl, Nat.le_of_ble_eq_true rfl⟩) (x_preV (ci := 12) hK hZ hA hW (hI 0 (by decide)) lR_0 rfl) rfl rfl hl.1 rfl (lv_room (Nat.le_of_ble_eq_true rfl)) dX12_next_18 ⟨Nat.zero_le _, Nat.zero_le _⟩) hW hA (fun r33 σ32 H locs h hW => ?_)
        try dsimp only at h
        refine lv_bipush (v := 10) hx hb dX12_next_21 (by decide) ?_
        refine lv_icmp_ne (tgt := 39) hx hb dX12_next_23 (by decide) (fun c34 => ?_) (fun c34 => ?_)
        · have h := h.1 c34
          refine lv_aload_n hx hb dX12_next_39 rfl (lv_at hl 0 rfl) ?_
          refine lv_aload_n hx hb dX12_next_40 rfl (lv_at hl 0 rfl) ?_
          refine xgX12_41 hx hb hts hown hK hW 0 hcX12_next_X12 (hI 0 (by decide)) lR_0 (hts _ hwX12_next_2) dX12_next_41 ?_
          refine xpX12_39 hx hb hts hown hK hW 0 hcX12_next_X12 (hI 0 (by decide)) lR_0 (hts _ hwX12_next_11) dX12_next_44 (fun σ35 H locs hσ35 hW => ?_)
          have h := h σ35 hσ35
          refine lv_aload_n hx hb dX12_next_47 rfl (lv_at hl 0 rfl) ?_
          refine lv_aload_n hx hb dX12_next_48 rfl (lv_at hl 0 rfl) ?_
          refine xgX12_41 hx hb hts hown hK hW 0 hcX12_next_X12 (hI 0 (by decide)) lR_0 (hts _ hwX12_next_2) dX12_next_49 ?_
          refine x_calli (va_runV (As := [.int (gI σ35 0 41)]) (rest := []) ⟨hx, hb, hml, hown, hts⟩ (J_X12_byteAt l hI h) (cwV 1 hts gX12_next_X12_byteAt rfl rfl rfl hdV_X12_byteAt ⟨Nat.le_of_ble_eq_true rfl, Nat.le_of_ble_eq_true rfl⟩) (x_preV (ci := 12) hK hZ hA hW (hI 0 (by decide)) lR_0 rfl) rfl rfl hl.1 rfl (lv_room (Nat.le_of_ble_eq_true rfl)) dX12_next_52 ⟨Nat.zero_le _, Nat.zero_le _⟩) hW hA (fun r37 σ36 H locs h hW => ?_)
          try dsimp only at h
          refine lv_istore_n (lv' := [(1, .int r37), (0, .ref (ad 0))]) hx hb dX12_next_55 rfl hl (by decide) rfl (fun ls hl => ?_)
          refine lv_aload_n hx hb dX12_next_56 rfl (lv_at hl 1 rfl) ?_
          refine lv_iconst (v := 4) hx hb dX12_next_57 (by decide) ?_
          refine xpX12_38 hx hb hts hown hK hW 0 hcX12_next_X12 (hI 0 (by decide)) lR_0 (hts _ hwX12_next_0) dX12_next_58 (fun σ38 H locs hσ38 hW => ?_)
          have h := h σ38 hσ38
          refine lv_iload_n hx hb dX12_next_61 rfl (lv_at hl 0 rfl) ?_
          refine lv_if_ge (tgt := 81) hx hb dX12_next_62 (by decide) (fun c39 => ?_) (fun c39 => ?_)
          · have h := h.1 c39
            refine lv_iload_n hx hb dX12_next_81 rfl (lv_at hl 0 rfl) ?_
            refine lv_i2l hx hb dX12_next_82 rfl ?_
            refine lv_ldc2 hx hb hown (hts _ hwX12_next_6) dX12_next_83 ?_
            refine lv_ldc2 hx hb hown (hts _ hwX12_next_7) dX12_next_86 ?_
            refine x_calli (va_runS (As := [.long (r37.toInt64), .long (97 : Int64), .long (122 : Int64)]) (rest := []) ⟨hx, hb, hml, hown, hts⟩ (J_X12_in l hI h) (va_cwS 3 hts gX12_next_X12_in rfl rfl rfl hdS_X12_in ⟨Nat.le_of_ble_eq_true rfl, Nat.le_of_ble_eq_true rfl⟩) (x_preS hK hZ hA hW) rfl rfl hl.1 rfl (lv_room (Nat.le_of_ble_eq_true rfl)) dX12_next_89 ⟨Nat.zero_le _, Nat.zero_le _⟩) hW hA (fun r41 σ40 H locs h hW => ?_)
            try dsimp only at h
            refine lv_if_eq (tgt := 185) hx hb dX12_next_92 (by decide) (fun c42 => ?_) (fun c42 => ?_)
            · have h := h.1 c42
              refine lv_iload_n hx hb dX12_next_185 rfl (lv_at hl 0 rfl) ?_
              refine lv_i2l hx hb dX12_next_186 rfl ?_
              refine lv_ldc2 hx hb hown (hts _ hwX12_next_3) dX12_next_187 ?_
              refine lv_ldc2 hx hb hown (hts _ hwX12_next_4) dX12_next_190 ?_
              refine x_calli (va_runS (As := [.long (r37.toInt64), .long (48 : Int64), .long (57 : Int64)]) (rest := []) ⟨hx, hb, hml, hown, hts⟩ (J_X12_in l hI h) (va_cwS 3 hts gX12_next_X12_in rfl rfl rfl hdS_X12_in ⟨Nat.le_of_ble_eq_true rfl, Nat.le_of_ble_eq_true rfl⟩) (x_preS hK hZ hA hW) rfl rfl hl.1 rfl (lv_room (Nat.le_of_ble_eq_true rfl)) dX12_next_193 ⟨Nat.zero_le _, Nat.zero_le _⟩) hW hA (fun r44 σ43 H locs h hW => ?_)
              try dsimp only at h
              refine lv_if_eq (tgt := 303) hx hb dX12_next_196 (by decide) (fun c45 => ?_) (fun c45 => ?_)
              · have h := h.1 c45
                refine lv_iload_n hx hb dX12_next_303 rfl (lv_at hl 0 rfl) ?_
                refine lv_bipush (v := 40) hx hb dX12_next_304 (by decide) ?_
                refine lv_icmp_eq (tgt := 351) hx hb dX12_next_306 (by decide) (fun c46 => ?_) (fun c46 => ?_)
                · have h := h.1 c46
                  exact blk351   r37 _ _ _ _ hW (lv_sub hl [1, 0] rfl) h
                · have h := h.2 c46
                  refine lv_iload_n hx hb dX12_next_309 rfl (lv_at hl 0 rfl) ?_
                  refine lv_bipush (v := 41) hx hb dX12_next_310 (by decide) ?_
                  refine lv_icmp_eq (tgt := 351) hx hb dX12_next_312 (by decide) (fun c47 => ?_) (fun c47 => ?_)
                  · have h := h.1 c47
                    exact blk351   r37 _ _ _ _ hW (lv_sub hl [1, 0] rfl) h
                  · have h := h.2 c47
                    refine lv_iload_n hx hb dX12_next_315 rfl (lv_at hl 0 rfl) ?_
                    refine lv_bipush (v := 59) hx hb dX12_next_316 (by decide) ?_
                    refine lv_icmp_eq (tgt := 351) hx hb dX12_next_318 (by decide) (fun c48 => ?_) (fun c48 => ?_)
                    · have h := h.1 c48
                      exact blk351   r37 _ _ _ _ hW (lv_sub hl [1, 0] rfl) h
                    · have h := h.2 c48
                      refine lv_iload_n hx hb dX12_next_321 rfl (lv_at hl 0 rfl) ?_
                      refine lv_bipush (v := 43) hx hb dX12_next_322 (by decide) ?_
                      refine lv_icmp_eq (tgt := 351) hx hb dX12_next_324 (by decide) (fun c49 => ?_) (fun c49 => ?_)
                      · have h := h.1 c49
                        exact blk351   r37 _ _ _ _ hW (lv_sub hl [1, 0] rfl) h
                      · have h := h.2 c49
                        refine lv_iload_n hx hb dX12_next_327 rfl (lv_at hl 0 rfl) ?_
                        refine lv_bipush (v := 45) hx hb dX12_next_328 (by decide) ?_
                        refine lv_icmp_eq (tgt := 351) hx hb dX12_next_330 (by decide) (fun c50 => ?_) (fun c50 => ?_)
                        · have h := h.1 c50
                          exact blk351   r37 _ _ _ _ hW (lv_sub hl [1, 0] rfl) h
                        · have h := h.2 c50
                          refine lv_iload_n hx hb dX12_next_333 rfl (lv_at hl 0 rfl) ?_
                          refine lv_bipush (v := 42) hx hb dX12_next_334 (by decide) ?_
                          refine lv_icmp_eq (tgt := 351) hx hb dX12_next_336 (by decide) (fun c51 => ?_) (fun c51 => ?_)
                          · have h := h.1 c51
                            exact blk351   r37 _ _ _ _ hW (lv_sub hl [1, 0] rfl) h
                          · have h := h.2 c51
                            refine lv_iload_n hx hb dX12_next_339 rfl (lv_at hl 0 rfl) ?_
                            refine lv_bipush (v := 60) hx hb dX12_next_340 (by decide) ?_
                            refine lv_icmp_eq (tgt := 351) hx hb dX12_next_342 (by decide) (fun c52 => ?_) (fun c52 => ?_)
                            · have h := h.1 c52
                              exact blk351   r37 _ _ _ _ hW (lv_sub hl [1, 0] rfl) h
                            · have h := h.2 c52
                              refine lv_iload_n hx hb dX12_next_345 rfl (lv_at hl 0 rfl) ?_
                              refine lv_bipush (v := 61) hx hb dX12_next_346 (by decide) ?_
                              refine lv_icmp_ne (tgt := 372) hx hb dX12_next_348 (by decide) (fun c53 => ?_) (fun c53 => ?_)
                              · have h := h.1 c53
                                exact blk372    _ _ _ _ hW (lv_sub hl [] rfl) h
                              · have h := h.2 c53
                                exact blk351   r37 _ _ _ _ hW (lv_sub hl [1, 0] rfl) h
              · have h := h.2 c45
                refine lv_aload_n hx hb dX12_next_199 rfl (lv_at hl 1 rfl) ?_
                refine lv_iconst (v := 2) hx hb dX12_next_200 (by decide) ?_
                refine xpX12_38 hx hb hts hown hK hW 0 hcX12_next_X12 (hI 0 (by decide)) lR_0 (hts _ hwX12_next_0) dX12_next_201 (fun σ54 H locs hσ54 hW => ?_)
                have h := h σ54 hσ54
                refine lv_aload_n hx hb dX12_next_204 rfl (lv_at hl 1 rfl) ?_
                refine lv_lconst (v := 0) hx hb dX12_next_205 (by decide) ?_
                refine xpX12_40 hx hb hts hown hK hW 0 hcX12_next_X12 (hI 0 (by decide)) lR_0 (hts _ hwX12_next_1) dX12_next_206 (fun σ55 H locs hσ55 hW => ?_)
                have h := h σ55 hσ55
                refine lv_iconst (v := 0) hx hb dX12_next_209 (by decide) ?_
                refine lv_istore_n (lv' := [(2, .int (0 : Int32)), (1, .int r37), (0, .ref (ad 0))]) hx hb dX12_next_210 rfl hl (by decide) rfl (fun ls hl => ?_)
                obtain ⟨n, h⟩ := h
                exact blk211    n (0 : Int32) _ _ _ _ hW (lv_sub hl [2, 0] rfl) h
            · have h := h.2 c42
              refine lv_aload_n hx hb dX12_next_95 rfl (lv_at hl 1 rfl) ?_
              refine lv_iconst (v := 1) hx hb dX12_next_96 (by decide) ?_
              refine xpX12_38 hx hb hts hown hK hW 0 hcX12_next_X12 (hI 0 (by decide)) lR_0 (hts _ hwX12_next_0) dX12_next_97 (fun σ57 H locs hσ57 hW => ?_)
              have h := h σ57 hσ57
              refine lv_aload_n hx hb dX12_next_100 rfl (lv_at hl 1 rfl) ?_
              refine lv_lconst (v := 0) hx hb dX12_next_101 (by decide) ?_
              refine xpX12_40 hx hb hts hown hK hW 0 hcX12_next_X12 (hI 0 (by decide)) lR_0 (hts _ hwX12_next_1) dX12_next_102 (fun σ58 H locs hσ58 hW => ?_)
              have h := h σ58 hσ58
              refine lv_iconst (v := 0) hx hb dX12_next_105 (by decide) ?_
              refine lv_istore_n (lv' := [(2, .int (0 : Int32)), (1, .int r37), (0, .ref (ad 0))]) hx hb dX12_next_106 rfl hl (by decide) rfl (fun ls hl => ?_)
              obtain ⟨n, h⟩ := h
              exact blk107    n (0 : Int32) _ _ _ _ hW (lv_sub hl [2, 0] rfl) h
          · have h := h.2 c39
            refine lv_aload_n hx hb dX12_next_65 rfl (lv_at hl 1 rfl) ?_
            refine lv_iconst (v := 0) hx hb dX12_next_66 (by decide) ?_
            refine xpX12_38 hx hb hts hown hK hW 0 hcX12_next_X12 (hI 0 (by decide)) lR_0 (hts _ hwX12_next_0) dX12_next_67 (fun σ60 H locs hσ60 hW => ?_)
            have h := h σ60 hσ60
            refine lv_aload_n hx hb dX12_next_70 rfl (lv_at hl 1 rfl) ?_
            refine lv_aload_n hx hb dX12_next_71 rfl (lv_at hl 1 rfl) ?_
            refine xgX12_37 hx hb hts hown hK hW 0 hcX12_next_X12 (hI 0 (by decide)) lR_0 (hts _ hwX12_next_12) dX12_next_72 ?_
            refine xpX12_39 hx hb hts hown hK hW 0 hcX12_next_X12 (hI 0 (by decide)) lR_0 (hts _ hwX12_next_11) dX12_next_75 (fun σ61 H locs hσ61 hW => ?_)
            have h := h σ61 hσ61
            refine lv_goto (tgt := 372) hx hb dX12_next_78 (by decide) ?_
            exact blk372    _ _ _ _ hW (lv_sub hl [] rfl) h
        · have h := h.2 c34
          exact blk26  k0 hk0  _ _ _ _ hW (lv_sub hl [0] rfl) h
  have main : ∀ (H : Heap) (locs : List Loc) (ls : Array Slot), xW D KA layR stR ad ids (xA ad ids s.heap.size) s.heap σ H locs → lv_has ls 3 [(0, .ref (ad 0))] → W p l e rmX12_next s m args below meth c H locs 0 0 Q (F0 m 0 ls []) := by
    intro H locs ls hW hl
    unfold wX12_next at h
    obtain ⟨n, h⟩ := h
    exact blk0    n  _ _ _ _ hW (lv_sub hl [0] rfl) h
  exact main _ _ _ hW hl
theorem hwX12_added_0 : (.fieldLink RX12 300 "FortyBeltsModel" "tokenWorth" "J" : Cond) ∈ wsX12_added := (List.mem_cons_of_mem _ (List.mem_append_left _ (List.mem_append_left _ (List.mem_of_getElem? (i := 0) rfl))))
theorem hwX12_added_1 : (.constantLong RX12 385 (43) : Cond) ∈ wsX12_added := (List.mem_cons_of_mem _ (List.mem_append_left _ (List.mem_append_left _ (List.mem_of_getElem? (i := 1) rfl))))
theorem hcX12_added_X12 : ∀ w ∈ wsX120, w ∈ wsX12_added := fun _ h => (List.mem_cons_of_mem _ (List.mem_append_right _ h))
set_option maxHeartbeats 4000000 in
set_option maxRecDepth 100000 in
theorem JO_X12_added {D : va_G} {KA : Nat → ClassId} {zs : ZS} {ad : Nat → Nat} {ids : List Nat} {sz : Nat} (l : Launch) (hI : ∀ c, c < 35 → c ∈ ids) (d : Nat) {rec : Nat → St → (Int32 → St → Prop) → Prop} (hrec0 : ∀ {σ : St} {post : Int32 → St → Prop} {sz : Nat}, rec 0  σ post → Met l yX12_either wsX12_either (rmgR d) (va_Pc [.ref (ad 0)] (xIn D KA zs layR stR ad ids sz σ)) (va_Qi post (xOut D KA layR stR ad ids) (xA ad ids sz)) 0 0 (xA ad ids sz)) (hrec1 : ∀ {σ : St} {post : Int32 → St → Prop} {sz : Nat}, rec 1  σ post → Met l yX12_both wsX12_both (rmgR d) (va_Pc [.ref (ad 0)] (xIn D KA zs layR stR ad ids sz σ)) (va_Qi post (xOut D KA layR stR ad ids) (xA ad ids sz)) 0 0 (xA ad ids sz)) (hrec2 : ∀ {σ : St} {post : Int32 → St → Prop} {sz : Nat}, rec 2  σ post → Met l yX12_not wsX12_not (rmgR d) (va_Pc [.ref (ad 0)] (xIn D KA zs layR stR ad ids sz σ)) (va_Qi post (xOut D KA layR stR ad ids) (xA ad ids sz)) 0 0 (xA ad ids sz)) (hrec3 : ∀ {σ : St} {post : Int32 → St → Prop} {sz : Nat}, rec 3  σ post → Met l yX12_added wsX12_added (rmgR d) (va_Pc [.ref (ad 0)] (xIn D KA zs layR stR ad ids sz σ)) (va_Qi post (xOut D KA layR stR ad ids) (xA ad ids sz)) 0 0 (xA ad ids sz)) (hrec4 : ∀ {σ : St} {post : Int32 → St → Prop} {sz : Nat}, rec 4  σ post → Met l yX12_term wsX12_term (rmgR d) (va_Pc [.ref (ad 0)] (xIn D KA zs layR stR ad ids sz σ)) (va_Qi post (xOut D KA layR stR ad ids) (xA ad ids sz)) 0 0 (xA ad ids sz)) (hrec5 : ∀ {σ : St} {post : Int32 → St → Prop} {sz : Nat}, rec 5  σ post → Met l yX12_one wsX12_one (rmgR d) (va_Pc [.ref (ad 0)] (xIn D KA zs layR stR ad ids sz σ)) (va_Qi post (xOut D KA layR stR ad ids) (xA ad ids sz)) 0 0 (xA ad ids sz))   {σ : St} {post : Int32 → St → Prop} (h : wX12_added rec  σ post) : Met l yX12_added wsX12_added (rmgR (d + 1)) (va_Pc [.ref (ad 0)] (xIn D KA zs layR stR ad ids sz σ)) (va_Qi post (xOut D KA layR stR ad ids) (xA ad ids sz)) 0 0 (xA ad ids sz) := by
  refine Met.ofW (cc := cX12_added) (maxL := 4) (ret := (some .int)) (by decide) rfl ?_
  intro p e s m args below meth c s₁ B hml hv
  obtain ⟨hav, hsz, hK, hZ, hP, hD⟩ := hv
  have hx := B.exec
  have hb := B.bytes
  have hr := B.returns
  have hts := atoms_spec (ws := wsX12_added) B.pre
  have hown : s.vm.findClass RX12 = some m.cls := findClass_of_methodNamed B.named
  have hlocks := B.notSynchronized
  subst hsz
  have hA : ∀ q : Nat, s.heap.size ≤ q → xA ad ids s.heap.size q := fun q h => Or.inr h
  have hW : xW D KA layR stR ad ids (xA ad ids s.heap.size) s.heap σ s.heap [] := ⟨hP, xA_D (D := D) hD, va_S.rf⟩
  have kr : ∀ (v : Int32) (σ : St) (H : Heap) (locs : List Loc) (ls : Array Slot) (pc : Nat), xW D KA layR stR ad ids (xA ad ids s.heap.size) s.heap σ H locs → post v σ → decode cX12_added pc = .ok (.ireturn, 1) → W p l e (rmgR (d + 1)) s m args below meth c H locs 0 0 (MQ below (va_Qi post (xOut D KA layR stR ad ids) (xA ad ids s.heap.size)) args s 0 0 (xA ad ids s.heap.size)) (F0 m pc ls [.int v]) := fun v σ H locs ls pc hW h hd => x_iret hx hb hr hlocks hW h hd
  have hl := lv_entry ([.ref (ad 0)]) (n := 4) (Nat.le_of_ble_eq_true rfl)
  rw [show entryFrame m args 4 = entryFrame m ([.ref (ad 0)] : List Value).toArray 4 from by rw [hav]]
  rw [lg_entry_eq]
  generalize (lg_sl ([.ref (ad 0)]) ++ List.replicate (4 - (lg_sl ([.ref (ad 0)])).length) Slot.unset).toArray = ls at hl ⊢
  have hl : lv_has ls 4 [(0, .ref (ad 0))] := hl
  show W p l e (rmgR (d + 1)) s m args below meth c s.heap [] 0 0 _ _
  generalize MQ below (va_Qi post (xOut D KA layR stR ad ids) (xA ad ids s.heap.size)) args s 0 0 (xA ad ids s.heap.size) = Q at kr ⊢
  have blk62 : ∀ (k5 : Int32 → St → Prop) (hk5 : ∀ (x1 : Int32) (σ : St) (H : Heap) (locs : List Loc) (ls : Array Slot), xW D KA layR stR ad ids (xA ad ids s.heap.size) s.heap σ H locs → lv_has ls 4 [(0, .ref (ad 0)), (1, .int x1)] → k5 x1 σ → W p l e (rmgR (d + 1)) s m args below meth c H locs 0 0 Q (F0 m 5 ls [])) (s0 : Int32) (σ : St) (H : Heap) (locs : List Loc) (ls : Array Slot), xW D KA layR stR ad ids (xA ad ids s.heap.size) s.heap σ H locs → lv_has ls 4 [(0, .ref (ad 0))] → wX12_added_62 rec k5 post s0 σ → W p l e (rmgR (d + 1)) s m args below meth c H locs 0 0 Q (F0 m 62 ls [.int s0]) := by
    intro  k5 hk5 s0 σ H locs ls hW hl h
    unfold wX12_added_62 at h
    refine lv_istore_n (lv' := [(1, .int s0), (0, .ref (ad 0))]) hx hb dX12_added_62 rfl hl (by decide) rfl (fun ls hl => ?_)
    refine lv_goto (tgt := 5) hx hb dX12_added_63 (by decide) ?_
    exact hk5 s0 _ _ _ _ hW (lv_sub hl [1, 0] rfl) h
  have blk39 : ∀ (k5 : Int32 → St → Prop) (hk5 : ∀ (x1 : Int32) (σ : St) (H : Heap) (locs : List Loc) (ls : Array Slot), xW D KA layR stR ad ids (xA ad ids s.heap.size) s.heap σ H locs → lv_has ls 4 [(0, .ref (ad 0)), (1, .int x1)] → k5 x1 σ → W p l e (rmgR (d + 1)) s m args below meth c H locs 0 0 Q (F0 m 5 ls [])) (x1 : Int32) (s0 : Int32) (σ : St) (H : Heap) (locs : List Loc) (ls : Array Slot), xW D KA layR stR ad ids (xA ad ids s.heap.size) s.heap σ H locs → lv_has ls 4 [(0, .ref (ad 0)), (1, .int x1)] → wX12_added_39 rec k5 post x1 s0 σ → W p l e (rmgR (d + 1)) s m args below meth c H locs 0 0 Q (F0 m 39 ls [.int s0]) := by
    intro  k5 hk5 x1 s0 σ H locs ls hW hl h
    unfold wX12_added_39 at h
    refine lv_istore_n (lv' := [(2, .int s0), (0, .ref (ad 0)), (1, .int x1)]) hx hb dX12_added_39 rfl hl (by decide) rfl (fun ls hl => ?_)
    refine lv_aload_n hx hb dX12_added_40 rfl (lv_at hl 1 rfl) ?_
    refine x_callv (va_runV (As := []) (rest := []) ⟨hx, hb, hml, hown, hts⟩ (J_X12_next l hI h) (cwV 0 hts gX12_added_X12_next rfl rfl rfl hdV_X12_next ⟨rmgR_of d (Nat.le_of_ble_eq_true rfl), rmgR_ol d (Nat.le_of_ble_eq_true rfl)⟩) (x_preV (ci := 12) hK hZ hA hW (hI 0 (by decide)) lR_0 rfl) rfl rfl hl.1 rfl (lv_room (Nat.le_of_ble_eq_true rfl)) dX12_added_41 ⟨Nat.zero_le _, Nat.zero_le _⟩) hW hA (fun σ1 H locs h hW => ?_)
    try dsimp only at h
    refine lv_aload_n hx hb dX12_added_44 rfl (lv_at hl 1 rfl) ?_
    refine x_calli (va_runV (As := []) (rest := []) ⟨hx, hb, hml, hown, hts⟩ (hrec4 h) (cwV 0 hts gX12_added_X12_term rfl rfl rfl hdV_X12_term ⟨rmgR_f d, rmgR_l d (Nat.le_of_ble_eq_true rfl)⟩) (x_preV (ci := 12) hK hZ hA hW (hI 0 (by decide)) lR_0 rfl) rfl rfl hl.1 rfl (lv_room (Nat.le_of_ble_eq_true rfl)) dX12_added_45 ⟨Nat.zero_le _, Nat.zero_le _⟩) hW hA (fun r3 σ2 H locs h hW => ?_)
    try dsimp only at h
    refine lv_istore_n (lv' := [(3, .int r3), (2, .int s0), (0, .ref (ad 0)), (1, .int x1)]) hx hb dX12_added_48 rfl hl (by decide) rfl (fun ls hl => ?_)
    refine lv_iload_n hx hb dX12_added_49 rfl (lv_at hl 1 rfl) ?_
    refine lv_if_eq (tgt := 59) hx hb dX12_added_50 (by decide) (fun c4 => ?_) (fun c4 => ?_)
    · have h := h.1 c4
      refine lv_iload_n hx hb dX12_added_59 rfl (lv_at hl 3 rfl) ?_
      refine lv_iload_n hx hb dX12_added_60 rfl (lv_at hl 0 rfl) ?_
      refine lv_isub hx hb dX12_added_61 ?_
      exact blk62  k5 hk5 (x1 - r3) _ _ _ _ hW (lv_sub hl [2] rfl) h
    · have h := h.2 c4
      refine lv_iload_n hx hb dX12_added_53 rfl (lv_at hl 3 rfl) ?_
      refine lv_iload_n hx hb dX12_added_54 rfl (lv_at hl 0 rfl) ?_
      refine lv_iadd hx hb dX12_added_55 ?_
      refine lv_goto (tgt := 62) hx hb dX12_added_56 (by decide) ?_
      exact blk62  k5 hk5 (x1 + r3) _ _ _ _ hW (lv_sub hl [2] rfl) h
  have blk23 : ∀ (k5 : Int32 → St → Prop) (hk5 : ∀ (x1 : Int32) (σ : St) (H : Heap) (locs : List Loc) (ls : Array Slot), xW D KA layR stR ad ids (xA ad ids s.heap.size) s.heap σ H locs → lv_has ls 4 [(0, .ref (ad 0)), (1, .int x1)] → k5 x1 σ → W p l e (rmgR (d + 1)) s m args below meth c H locs 0 0 Q (F0 m 5 ls [])) (x1 : Int32) (σ : St) (H : Heap) (locs : List Loc) (ls : Array Slot), xW D KA layR stR ad ids (xA ad ids s.heap.size) s.heap σ H locs → lv_has ls 4 [(0, .ref (ad 0)), (1, .int x1)] → wX12_added_23 rec k5 post x1 σ → W p l e (rmgR (d + 1)) s m args below meth c H locs 0 0 Q (F0 m 23 ls []) := by
    intro  k5 hk5 x1 σ H locs ls hW hl h
    unfold wX12_added_23 at h
    refine lv_aload_n hx hb dX12_added_23 rfl (lv_at hl 0 rfl) ?_
    refine xgX12_40 hx hb hts hown hK hW 0 hcX12_added_X12 (hI 0 (by decide)) lR_0 (hts _ hwX12_added_0) dX12_added_24 ?_
    refine lv_ldc2 hx hb hown (hts _ hwX12_added_1) dX12_added_27 ?_
    refine W.lcmp hx hb dX12_added_30 ?_
    refine lv_if_ne (tgt := 38) hx hb dX12_added_31 (by decide) (fun c5 => ?_) (fun c5 => ?_)
    · have h := h.1 c5
      refine lv_iconst (v := 0) hx hb dX12_added_38 (by decide) ?_
      exact blk39  k5 hk5 x1 (0 : Int32) _ _ _ _ hW (lv_sub hl [0, 1] rfl) h
    · have h := h.2 c5
      refine lv_iconst (v := 1) hx hb dX12_added_34 (by decide) ?_
      refine lv_goto (tgt := 39) hx hb dX12_added_35 (by decide) ?_
      exact blk39  k5 hk5 x1 (1 : Int32) _ _ _ _ hW (lv_sub hl [0, 1] rfl) h
  have blk5 : ∀ (n : Nat) (x1 : Int32) (σ : St) (H : Heap) (locs : List Loc) (ls : Array Slot), xW D KA layR stR ad ids (xA ad ids s.heap.size) s.heap σ H locs → lv_has ls 4 [(0, .ref (ad 0)), (1, .int x1)] → wX12_added_5 rec post  n x1 σ → W p l e (rmgR (d + 1)) s m args below meth c H locs 0 0 Q (F0 m 5 ls []) := by
    intro    n
    induction n with
    | zero => intro x1 σ H locs ls hW hl h; exact (h : False).elim
    | succ n ih =>
      intro x1 σ H locs ls hW hl h
      have hk5 : ∀ (x1 : Int32) (σ : St) (H : Heap) (locs : List Loc) (ls : Array Slot), xW D KA layR stR ad ids (xA ad ids s.heap.size) s.heap σ H locs → lv_has ls 4 [(0, .ref (ad 0)), (1, .int x1)] → (wX12_added_5 rec post  n) x1 σ → W p l e (rmgR (d + 1)) s m args below meth c H locs 0 0 Q (F0 m 5 ls []) := fun x1 σ H locs ls hW hl h => ih x1 σ H locs ls hW hl h
      rw [wX12_added_5_s] at h
      try dsimp only at h
      generalize wX12_added_5 rec post  n = k5 at h hk5
      refine lv_aload_n hx hb dX12_added_5 rfl (lv_at hl 0 rfl) ?_
      refine lv_bipush (v := 43) hx hb dX12_added_6 (by decide) ?_
      refine x_calli (va_runV (As := [.int (43 : Int32)]) (rest := []) ⟨hx, hb, hml, hown, hts⟩ (J_X12_isSign l hI h) (cwV 1 hts gX12_added_X12_isSign rfl rfl rfl hdV_X12_isSign ⟨rmgR_of d (Nat.le_of_ble_eq_true rfl), rmgR_ol d (Nat.le_of_ble_eq_true rfl)⟩) (x_preV (ci := 12) hK hZ hA hW (hI 0 (by decide)) lR_0 rfl) rfl rfl hl.1 rfl (lv_room (Nat.le_of_ble_eq_true rfl)) dX12_added_8 ⟨Nat.zero_le _, Nat.zero_le _⟩) hW hA (fun r7 σ6 H locs h hW => ?_)
      try dsimp only at h
      refine lv_if_ne (tgt := 23) hx hb dX12_added_11 (by decide) (fun c8 => ?_) (fun c8 => ?_)
      · have h := h.1 c8
        exact blk23  k5 hk5 x1 _ _ _ _ hW (lv_sub hl [0, 1] rfl) h
      · have h := h.2 c8
        refine lv_aload_n hx hb dX12_added_14 rfl (lv_at hl 0 rfl) ?_
        refine lv_bipush (v := 45) hx hb dX12_added_15 (by decide) ?_
        refine x_calli (va_runV (As := [.int (45 : Int32)]) (rest := []) ⟨hx, hb, hml, hown, hts⟩ (J_X12_isSign l hI h) (cwV 1 hts gX12_added_X12_isSign rfl rfl rfl hdV_X12_isSign ⟨rmgR_of d (Nat.le_of_ble_eq_true rfl), rmgR_ol d (Nat.le_of_ble_eq_true rfl)⟩) (x_preV (ci := 12) hK hZ hA hW (hI 0 (by decide)) lR_0 rfl) rfl rfl hl.1 rfl (lv_room (Nat.le_of_ble_eq_true rfl)) dX12_added_17 ⟨Nat.zero_le _, Nat.zero_le _⟩) hW hA (fun r10 σ9 H locs h hW => ?_)
        try dsimp only at h
        refine lv_if_eq (tgt := 66) hx hb dX12_added_20 (by decide) (fun c11 => ?_) (fun c11 => ?_)
        · have h := h.1 c11
          refine lv_iload_n hx hb dX12_added_66 rfl (lv_at hl 1 rfl) ?_
          exact kr _ _ _ _ _ _ hW h dX12_added_67
        · have h := h.2 c11
          exact blk23  k5 hk5 x1 _ _ _ _ hW (lv_sub hl [0, 1] rfl) h
  have main : ∀ (H : Heap) (locs : List Loc) (ls : Array Slot), xW D KA layR stR ad ids (xA ad ids s.heap.size) s.heap σ H locs → lv_has ls 4 [(0, .ref (ad 0))] → W p l e (rmgR (d + 1)) s m args below meth c H locs 0 0 Q (F0 m 0 ls []) := by
    intro H locs ls hW hl
    unfold wX12_added at h
    refine lv_aload_n hx hb dX12_added_0 rfl (lv_at hl 0 rfl) ?_
    refine x_calli (va_runV (As := []) (rest := []) ⟨hx, hb, hml, hown, hts⟩ (hrec4 h) (cwV 0 hts gX12_added_X12_term rfl rfl rfl hdV_X12_term ⟨rmgR_f d, rmgR_l d (Nat.le_of_ble_eq_true rfl)⟩) (x_preV (ci := 12) hK hZ hA hW (hI 0 (by decide)) lR_0 rfl) rfl rfl hl.1 rfl (lv_room (Nat.le_of_ble_eq_true rfl)) dX12_added_1 ⟨Nat.zero_le _, Nat.zero_le _⟩) hW hA (fun r1002 σ1001 H locs h hW => ?_)
    try dsimp only at h
    refine lv_istore_n (lv' := [(1, .int r1002), (0, .ref (ad 0))]) hx hb dX12_added_4 rfl hl (by decide) rfl (fun ls hl => ?_)
    obtain ⟨n, h⟩ := h
    exact blk5    n r1002 _ _ _ _ hW (lv_sub hl [1, 0] rfl) h
  exact main _ _ _ hW hl
theorem hwX12_isWord_0 : (.fieldLink RX12 316 "FortyBeltsModel" "bad" "Z" : Cond) ∈ wsX12_isWord := (List.mem_cons_of_mem _ (List.mem_append_left _ (List.mem_of_getElem? (i := 0) rfl)))
theorem hwX12_isWord_1 : (.fieldLink RX12 293 "FortyBeltsModel" "token" "I" : Cond) ∈ wsX12_isWord := (List.mem_cons_of_mem _ (List.mem_append_left _ (List.mem_of_getElem? (i := 1) rfl)))
theorem hwX12_isWord_2 : (.fieldLink RX12 300 "FortyBeltsModel" "tokenWorth" "J" : Cond) ∈ wsX12_isWord := (List.mem_cons_of_mem _ (List.mem_append_left _ (List.mem_of_getElem? (i := 2) rfl)))
theorem hcX12_isWord_X12 : ∀ w ∈ wsX120, w ∈ wsX12_isWord := fun _ h => (List.mem_cons_of_mem _ (List.mem_append_right _ h))
set_option maxHeartbeats 4000000 in
set_option maxRecDepth 100000 in
theorem J_X12_isWord {D : va_G} {KA : Nat → ClassId} {zs : ZS} {ad : Nat → Nat} {ids : List Nat} {sz : Nat} (l : Launch) (hI : ∀ c, c < 35 → c ∈ ids) {a1 : Int64}  {σ : St} {post : Int32 → St → Prop} (h : wX12_isWord  a1 σ post) : Met l yX12_isWord wsX12_isWord rmX12_isWord (va_Pc [.ref (ad 0), .long a1] (xIn D KA zs layR stR ad ids sz σ)) (va_Qi post (xOut D KA layR stR ad ids) (xA ad ids sz)) 0 0 (xA ad ids sz) := by
  refine Met.ofW (cc := cX12_isWord) (maxL := 3) (ret := (some .boolean)) (by decide) rfl ?_
  intro p e s m args below meth c s₁ B hml hv
  obtain ⟨hav, hsz, hK, hZ, hP, hD⟩ := hv
  have hx := B.exec
  have hb := B.bytes
  have hr := B.returns
  have hts := atoms_spec (ws := wsX12_isWord) B.pre
  have hown : s.vm.findClass RX12 = some m.cls := findClass_of_methodNamed B.named
  have hlocks := B.notSynchronized
  subst hsz
  have hA : ∀ q : Nat, s.heap.size ≤ q → xA ad ids s.heap.size q := fun q h => Or.inr h
  have hW : xW D KA layR stR ad ids (xA ad ids s.heap.size) s.heap σ s.heap [] := ⟨hP, xA_D (D := D) hD, va_S.rf⟩
  have kr : ∀ (v : Int32) (σ : St) (H : Heap) (locs : List Loc) (ls : Array Slot) (pc : Nat), xW D KA layR stR ad ids (xA ad ids s.heap.size) s.heap σ H locs → isB v → post v σ → decode cX12_isWord pc = .ok (.ireturn, 1) → W p l e rmX12_isWord s m args below meth c H locs 0 0 (MQ below (va_Qi post (xOut D KA layR stR ad ids) (xA ad ids s.heap.size)) args s 0 0 (xA ad ids s.heap.size)) (F0 m pc ls [.int v]) := fun v σ H locs ls pc hW hz h hd => x_zret hx hb hr hlocks hW hz h hd
  have hl := lv_entry ([.ref (ad 0), .long a1]) (n := 3) (Nat.le_of_ble_eq_true rfl)
  rw [show entryFrame m args 3 = entryFrame m ([.ref (ad 0), .long a1] : List Value).toArray 3 from by rw [hav]]
  rw [lg_entry_eq]
  generalize (lg_sl ([.ref (ad 0), .long a1]) ++ List.replicate (3 - (lg_sl ([.ref (ad 0), .long a1])).length) Slot.unset).toArray = ls at hl ⊢
  have hl : lv_has ls 3 [(0, .ref (ad 0)), (1, .long a1)] := hl
  show W p l e rmX12_isWord s m args below meth c s.heap [] 0 0 _ _
  generalize MQ below (va_Qi post (xOut D KA layR stR ad ids) (xA ad ids s.heap.size)) args s 0 0 (xA ad ids s.heap.size) = Q at kr ⊢
  have blk29 : ∀ (s0 : Int32) (σ : St) (H : Heap) (locs : List Loc) (ls : Array Slot), xW D KA layR stR ad ids (xA ad ids s.heap.size) s.heap σ H locs → lv_has ls 3 [] → wX12_isWord_29 post s0 σ → W p l e rmX12_isWord s m args below meth c H locs 0 0 Q (F0 m 29 ls [.int s0]) := by
    intro   s0 σ H locs ls hW hl h
    unfold wX12_isWord_29 at h
    obtain ⟨hz1, h⟩ := h
    exact kr _ _ _ _ _ _ hW hz1 h dX12_isWord_29
  have blk28 : ∀ (σ : St) (H : Heap) (locs : List Loc) (ls : Array Slot), xW D KA layR stR ad ids (xA ad ids s.heap.size) s.heap σ H locs → lv_has ls 3 [] → wX12_isWord_28 post  σ → W p l e rmX12_isWord s m args below meth c H locs 0 0 Q (F0 m 28 ls []) := by
    intro    σ H locs ls hW hl h
    unfold wX12_isWord_28 at h
    refine lv_iconst (v := 0) hx hb dX12_isWord_28 (by decide) ?_
    exact blk29   (0 : Int32) _ _ _ _ hW (lv_sub hl [] rfl) h
  have main : ∀ (H : Heap) (locs : List Loc) (ls : Array Slot), xW D KA layR stR ad ids (xA ad ids s.heap.size) s.heap σ H locs → lv_has ls 3 [(0, .ref (ad 0)), (1, .long a1)] → W p l e rmX12_isWord s m args below meth c H locs 0 0 Q (F0 m 0 ls []) := by
    intro H locs ls hW hl
    unfold wX12_isWord at h
    refine lv_aload_n hx hb dX12_isWord_0 rfl (lv_at hl 0 rfl) ?_
    refine xgX12_43 hx hb hts hown hK hW 0 hcX12_isWord_X12 (hI 0 (by decide)) lR_0 (hts _ hwX12_isWord_0) dX12_isWord_1 ?_
    refine lv_if_ne (tgt := 28) hx hb dX12_isWord_4 (by decide) (fun c1001 => ?_) (fun c1001 => ?_)
    · have h := h.1 c1001
      exact blk28    _ _ _ _ hW (lv_sub hl [] rfl) h
    · have h := h.2 c1001
      refine lv_aload_n hx hb dX12_isWord_7 rfl (lv_at hl 0 rfl) ?_
      refine xgX12_38 hx hb hts hown hK hW 0 hcX12_isWord_X12 (hI 0 (by decide)) lR_0 (hts _ hwX12_isWord_1) dX12_isWord_8 ?_
      refine lv_iconst (v := 1) hx hb dX12_isWord_11 (by decide) ?_
      refine lv_icmp_ne (tgt := 28) hx hb dX12_isWord_12 (by decide) (fun c1002 => ?_) (fun c1002 => ?_)
      · have h := h.1 c1002
        exact blk28    _ _ _ _ hW (lv_sub hl [] rfl) h
      · have h := h.2 c1002
        refine lv_aload_n hx hb dX12_isWord_15 rfl (lv_at hl 0 rfl) ?_
        refine xgX12_40 hx hb hts hown hK hW 0 hcX12_isWord_X12 (hI 0 (by decide)) lR_0 (hts _ hwX12_isWord_2) dX12_isWord_16 ?_
        refine lv_lload_n hx hb dX12_isWord_19 rfl (lv_at hl 1 rfl) ?_
        refine W.lcmp hx hb dX12_isWord_20 ?_
        refine lv_if_ne (tgt := 28) hx hb dX12_isWord_21 (by decide) (fun c1003 => ?_) (fun c1003 => ?_)
        · have h := h.1 c1003
          exact blk28    _ _ _ _ hW (lv_sub hl [] rfl) h
        · have h := h.2 c1003
          refine lv_iconst (v := 1) hx hb dX12_isWord_24 (by decide) ?_
          refine lv_goto (tgt := 29) hx hb dX12_isWord_25 (by decide) ?_
          exact blk29   (1 : Int32) _ _ _ _ hW (lv_sub hl [] rfl) h
  exact main _ _ _ hW hl
