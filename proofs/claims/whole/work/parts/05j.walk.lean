theorem hwX11_years_0 : (.fieldLink RX11 10 "FortyBelts" "mill" "LFortyBelts$Mill;" : Cond) ∈ wsX11_years := (List.mem_cons_of_mem _ (List.mem_append_left _ (List.mem_append_left _ (List.mem_append_left _ (List.mem_append_left _ (List.mem_append_left _ (List.mem_append_left _ (List.mem_append_left _ (List.mem_append_left _ (List.mem_append_left _ (List.mem_append_left _ (List.mem_append_left _ (List.mem_of_getElem? (i := 1) rfl)))))))))))))
theorem hwX11_years_1 : (.fieldLink RX11 163 "FortyBelts$Mill" "belts" "[LFortyBelts$Belt;" : Cond) ∈ wsX11_years := (List.mem_cons_of_mem _ (List.mem_append_left _ (List.mem_append_left _ (List.mem_append_left _ (List.mem_append_left _ (List.mem_append_left _ (List.mem_append_left _ (List.mem_append_left _ (List.mem_append_left _ (List.mem_append_left _ (List.mem_append_left _ (List.mem_append_left _ (List.mem_of_getElem? (i := 2) rfl)))))))))))))
theorem hwX11_years_2 : (.constant RX11 291 (999999) : Cond) ∈ wsX11_years := (List.mem_cons_of_mem _ (List.mem_append_left _ (List.mem_append_left _ (List.mem_append_left _ (List.mem_append_left _ (List.mem_append_left _ (List.mem_append_left _ (List.mem_append_left _ (List.mem_append_left _ (List.mem_append_left _ (List.mem_append_left _ (List.mem_append_left _ (List.mem_of_getElem? (i := 0) rfl)))))))))))))
theorem hcX11_years_X11 : ∀ w ∈ wsX110, w ∈ wsX11_years := fun _ h => (List.mem_cons_of_mem _ (List.mem_append_left _ (List.mem_append_left _ (List.mem_append_left _ (List.mem_append_left _ (List.mem_append_left _ (List.mem_append_left _ (List.mem_append_left _ (List.mem_append_left _ (List.mem_append_left _ (List.mem_append_right _ h)))))))))))
theorem hcX11_years_X6 : ∀ w ∈ wsX60, w ∈ wsX11_years := fun _ h => (List.mem_cons_of_mem _ (List.mem_append_left _ (List.mem_append_left _ (List.mem_append_left _ (List.mem_append_left _ (List.mem_append_left _ (List.mem_append_left _ (List.mem_append_left _ (List.mem_append_left _ (List.mem_append_right _ h))))))))))
set_option maxHeartbeats 4000000 in
set_option maxRecDepth 100000 in
theorem J_X11_years {D : va_G} {KA : Nat → ClassId} {zs : ZS} {ad : Nat → Nat} {ids : List Nat} {sz : Nat} (l : Launch) (hI : ∀ c, c < 52 ∧ ¬ c = 19 → c ∈ ids) {a1 : Int32} {a2 : Int32} {a3 : Int32}  {σ : St} {post : Int32 → St → Prop} (h : wX11_years ids a1 a2 a3 σ post) : Met l yX11_years wsX11_years rmX11_years (va_Pc [.ref (ad 0), .int a1, .int a2, .int a3] (xIn D KA zs layX stX ad ids sz σ)) (va_Qi post (xOut D KA layX stX ad ids) (xA ad ids sz)) 0 0 (xA ad ids sz) := by
  refine Met.ofW (cc := cX11_years) (maxL := 4) (ret := (some .int)) (by decide) rfl ?_
  intro p e s m args below meth c s₁ B hml hv
  obtain ⟨hav, hsz, hK, hZ, hP, hD⟩ := hv
  have hx := B.exec
  have hb := B.bytes
  have hr := B.returns
  have hts := atoms_spec (ws := wsX11_years) B.pre
  have hown : s.vm.findClass RX11 = some m.cls := findClass_of_methodNamed B.named
  have hlocks := B.notSynchronized
  subst hsz
  have hA : ∀ q : Nat, s.heap.size ≤ q → xA ad ids s.heap.size q := fun q h => Or.inr h
  have hW : xW D KA layX stX ad ids (xA ad ids s.heap.size) s.heap σ s.heap [] := ⟨hP, xA_D (D := D) hD, va_S.rf⟩
  have kr : ∀ (v : Int32) (σ : St) (H : Heap) (locs : List Loc) (ls : Array Slot) (pc : Nat), xW D KA layX stX ad ids (xA ad ids s.heap.size) s.heap σ H locs → post v σ → decode cX11_years pc = .ok (.ireturn, 1) → W p l e rmX11_years s m args below meth c H locs 0 0 (MQ below (va_Qi post (xOut D KA layX stX ad ids) (xA ad ids s.heap.size)) args s 0 0 (xA ad ids s.heap.size)) (F0 m pc ls [.int v]) := fun v σ H locs ls pc hW h hd => x_iret hx hb hr hlocks hW h hd
  have hl := lv_entry ([.ref (ad 0), .int a1, .int a2, .int a3]) (n := 4) (Nat.le_of_ble_eq_true rfl)
  rw [show entryFrame m args 4 = entryFrame m ([.ref (ad 0), .int a1, .int a2, .int a3] : List Value).toArray 4 from by rw [hav]]
  rw [lg_entry_eq]
  generalize (lg_sl ([.ref (ad 0), .int a1, .int a2, .int a3]) ++ List.replicate (4 - (lg_sl ([.ref (ad 0), .int a1, .int a2, .int a3])).length) Slot.unset).toArray = ls at hl ⊢
  have hl : lv_has ls 4 [(0, .ref (ad 0)), (1, .int a1), (2, .int a2), (3, .int a3)] := hl
  show W p l e rmX11_years s m args below meth c s.heap [] 0 0 _ _
  generalize MQ below (va_Qi post (xOut D KA layX stX ad ids) (xA ad ids s.heap.size)) args s 0 0 (xA ad ids s.heap.size) = Q at kr ⊢
  have blk68 : ∀ (s0 : Int32) (σ : St) (H : Heap) (locs : List Loc) (ls : Array Slot), xW D KA layX stX ad ids (xA ad ids s.heap.size) s.heap σ H locs → lv_has ls 4 [] → wX11_years_68 ids post s0 σ → W p l e rmX11_years s m args below meth c H locs 0 0 Q (F0 m 68 ls [.int s0]) := by
    intro   s0 σ H locs ls hW hl h
    unfold wX11_years_68 at h
    exact kr _ _ _ _ _ _ hW h dX11_years_68
  have blk35 : ∀ (x1 : Int32) (x2 : Int32) (x3 : Int32) (σ : St) (H : Heap) (locs : List Loc) (ls : Array Slot), xW D KA layX stX ad ids (xA ad ids s.heap.size) s.heap σ H locs → lv_has ls 4 [(0, .ref (ad 0)), (1, .int x1), (2, .int x2), (3, .int x3)] → wX11_years_35 ids post x1 x2 x3 σ → W p l e rmX11_years s m args below meth c H locs 0 0 Q (F0 m 35 ls []) := by
    intro   x1 x2 x3 σ H locs ls hW hl h
    unfold wX11_years_35 at h
    refine lv_aload_n hx hb dX11_years_35 rfl (lv_at hl 0 rfl) ?_
    refine xgX11_0r hx hb hts hown hK hW 0 hcX11_years_X11 (hI 0 (by decide)) lX_0 (hts _ hwX11_years_0) (sX_0_0 _) dX11_years_36 ?_
    refine x_callv (va_runV (As := []) (rest := []) ⟨hx, hb, hml, hown, hts⟩ (J_X6_spin l hI h) (cwV 0 hts gX11_years_X6_spin rfl rfl rfl hdV_X6_spin ⟨Nat.le_of_ble_eq_true rfl, Nat.le_of_ble_eq_true rfl⟩) (x_preV (ci := 6) hK hZ hA hW (hI 1 (by decide)) lX_1 rfl) rfl rfl hl.1 rfl (lv_room (Nat.le_of_ble_eq_true rfl)) dX11_years_39 ⟨Nat.zero_le _, Nat.zero_le _⟩) hW hA (fun σ1 H locs h hW => ?_)
    try dsimp only at h
    refine lv_iload_n hx hb dX11_years_42 rfl (lv_at hl 3 rfl) ?_
    refine lv_if_ne (tgt := 63) hx hb dX11_years_43 (by decide) (fun c2 => ?_) (fun c2 => ?_)
    · have h := h.1 c2
      refine lv_aload_n hx hb dX11_years_63 rfl (lv_at hl 0 rfl) ?_
      refine lv_iload_n hx hb dX11_years_64 rfl (lv_at hl 2 rfl) ?_
      refine x_calli (va_runV (As := [.int x2]) (rest := []) ⟨hx, hb, hml, hown, hts⟩ (J_X11_firstWorn l hI h) (cwV 1 hts gX11_years_X11_firstWorn rfl rfl rfl hdV_X11_firstWorn ⟨Nat.le_of_ble_eq_true rfl, Nat.le_of_ble_eq_true rfl⟩) (x_preV (ci := 11) hK hZ hA hW (hI 0 (by decide)) lX_0 rfl) rfl rfl hl.1 rfl (lv_room (Nat.le_of_ble_eq_true rfl)) dX11_years_65 ⟨Nat.zero_le _, Nat.zero_le _⟩) hW hA (fun r4 σ3 H locs h hW => ?_)
      try dsimp only at h
      exact blk68   r4 _ _ _ _ hW (lv_sub hl [] rfl) h
    · have h := h.2 c2
      refine lv_aload_n hx hb dX11_years_46 rfl (lv_at hl 0 rfl) ?_
      refine lv_aload_n hx hb dX11_years_47 rfl (lv_at hl 0 rfl) ?_
      refine xgX11_0r hx hb hts hown hK hW 0 hcX11_years_X11 (hI 0 (by decide)) lX_0 (hts _ hwX11_years_0) (sX_0_0 _) dX11_years_48 ?_
      refine xgX6_12r hx hb hts hown hK hW 1 hcX11_years_X6 (hI 1 (by decide)) lX_1 (hts _ hwX11_years_1) (sX_1_12 _) dX11_years_51 ?_
      refine lv_iload_n hx hb dX11_years_54 rfl (lv_at hl 1 rfl) ?_
      obtain ⟨hi5, h⟩ := h
      obtain ⟨o6, hr7, ok_o6, h⟩ := h
      refine x_ald hx hb hK hW 11 0 (hI 11 (by decide)) lX_11 rfl hi5 ((sX_11 _ _).trans hr7) dX11_years_55 ?_
      refine lv_iload_n hx hb dX11_years_56 rfl (lv_at hl 2 rfl) ?_
      refine x_calli (va_runV (As := [.ref (ad o6), .int x2]) (rest := []) ⟨hx, hb, hml, hown, hts⟩ (J_X11_days l hI ok_o6 h) (cwV 2 hts gX11_years_X11_days rfl rfl rfl hdV_X11_days ⟨Nat.le_of_ble_eq_true rfl, Nat.le_of_ble_eq_true rfl⟩) (x_preV (ci := 11) hK hZ hA hW (hI 0 (by decide)) lX_0 rfl) rfl rfl hl.1 rfl (lv_room (Nat.le_of_ble_eq_true rfl)) dX11_years_57 ⟨Nat.zero_le _, Nat.zero_le _⟩) hW hA (fun r9 σ8 H locs h hW => ?_)
      try dsimp only at h
      refine lv_goto (tgt := 68) hx hb dX11_years_60 (by decide) ?_
      exact blk68   r9 _ _ _ _ hW (lv_sub hl [] rfl) h
  have blk32 : ∀ (σ : St) (H : Heap) (locs : List Loc) (ls : Array Slot), xW D KA layX stX ad ids (xA ad ids s.heap.size) s.heap σ H locs → lv_has ls 4 [] → wX11_years_32 ids post  σ → W p l e rmX11_years s m args below meth c H locs 0 0 Q (F0 m 32 ls []) := by
    intro    σ H locs ls hW hl h
    unfold wX11_years_32 at h
    refine lv_bipush (v := (-2)) hx hb dX11_years_32 (by decide) ?_
    exact kr _ _ _ _ _ _ hW h dX11_years_34
  have main : ∀ (H : Heap) (locs : List Loc) (ls : Array Slot), xW D KA layX stX ad ids (xA ad ids s.heap.size) s.heap σ H locs → lv_has ls 4 [(0, .ref (ad 0)), (1, .int a1), (2, .int a2), (3, .int a3)] → W p l e rmX11_years s m args below meth c H locs 0 0 Q (F0 m 0 ls []) := by
    intro H locs ls hW hl
    unfold wX11_years at h
    refine lv_iload_n hx hb dX11_years_0 rfl (lv_at hl 2 rfl) ?_
    refine lv_iconst (v := 1) hx hb dX11_years_1 (by decide) ?_
    refine lv_ldcw hx hb hown (hts _ hwX11_years_2) dX11_years_2 ?_
    refine x_calli (va_runS (As := [.int a2, .int (1 : Int32), .int (999999 : Int32)]) (rest := []) ⟨hx, hb, hml, hown, hts⟩ (J_X11_within l hI h) (va_cwS 3 hts gX11_years_X11_within rfl rfl rfl hdS_X11_within ⟨Nat.le_of_ble_eq_true rfl, Nat.le_of_ble_eq_true rfl⟩) (x_preS hK hZ hA hW) rfl rfl hl.1 rfl (lv_room (Nat.le_of_ble_eq_true rfl)) dX11_years_5 ⟨Nat.zero_le _, Nat.zero_le _⟩) hW hA (fun r1002 σ1001 H locs h hW => ?_)
    try dsimp only at h
    refine lv_if_eq (tgt := 32) hx hb dX11_years_8 (by decide) (fun c1003 => ?_) (fun c1003 => ?_)
    · have h := h.1 c1003
      exact blk32    _ _ _ _ hW (lv_sub hl [] rfl) h
    · have h := h.2 c1003
      refine lv_iload_n hx hb dX11_years_11 rfl (lv_at hl 3 rfl) ?_
      refine lv_iconst (v := 0) hx hb dX11_years_12 (by decide) ?_
      refine lv_iconst (v := 1) hx hb dX11_years_13 (by decide) ?_
      refine x_calli (va_runS (As := [.int a3, .int (0 : Int32), .int (1 : Int32)]) (rest := []) ⟨hx, hb, hml, hown, hts⟩ (J_X11_within l hI h) (va_cwS 3 hts gX11_years_X11_within rfl rfl rfl hdS_X11_within ⟨Nat.le_of_ble_eq_true rfl, Nat.le_of_ble_eq_true rfl⟩) (x_preS hK hZ hA hW) rfl rfl hl.1 rfl (lv_room (Nat.le_of_ble_eq_true rfl)) dX11_years_14 ⟨Nat.zero_le _, Nat.zero_le _⟩) hW hA (fun r1005 σ1004 H locs h hW => ?_)
      try dsimp only at h
      refine lv_if_eq (tgt := 32) hx hb dX11_years_17 (by decide) (fun c1006 => ?_) (fun c1006 => ?_)
      · have h := h.1 c1006
        exact blk32    _ _ _ _ hW (lv_sub hl [] rfl) h
      · have h := h.2 c1006
        refine lv_iload_n hx hb dX11_years_20 rfl (lv_at hl 3 rfl) ?_
        refine lv_if_ne (tgt := 35) hx hb dX11_years_21 (by decide) (fun c1007 => ?_) (fun c1007 => ?_)
        · have h := h.1 c1007
          exact blk35   a1 a2 a3 _ _ _ _ hW (lv_sub hl [0, 1, 2, 3] rfl) h
        · have h := h.2 c1007
          refine lv_aload_n hx hb dX11_years_24 rfl (lv_at hl 0 rfl) ?_
          refine lv_iload_n hx hb dX11_years_25 rfl (lv_at hl 1 rfl) ?_
          refine x_calli (va_runV (As := [.int a1]) (rest := []) ⟨hx, hb, hml, hown, hts⟩ (J_X11_isBelt l hI h) (cwV 1 hts gX11_years_X11_isBelt rfl rfl rfl hdV_X11_isBelt ⟨Nat.le_of_ble_eq_true rfl, Nat.le_of_ble_eq_true rfl⟩) (x_preV (ci := 11) hK hZ hA hW (hI 0 (by decide)) lX_0 rfl) rfl rfl hl.1 rfl (lv_room (Nat.le_of_ble_eq_true rfl)) dX11_years_26 ⟨Nat.zero_le _, Nat.zero_le _⟩) hW hA (fun r1009 σ1008 H locs h hW => ?_)
          try dsimp only at h
          refine lv_if_ne (tgt := 35) hx hb dX11_years_29 (by decide) (fun c1010 => ?_) (fun c1010 => ?_)
          · have h := h.1 c1010
            exact blk35   a1 a2 a3 _ _ _ _ hW (lv_sub hl [0, 1, 2, 3] rfl) h
          · have h := h.2 c1010
            exact blk32    _ _ _ _ hW (lv_sub hl [] rfl) h
  exact main _ _ _ hW hl
theorem hwX12_isSign_0 : (.fieldLink RX12 316 "FortyBeltsModel" "bad" "Z" : Cond) ∈ wsX12_isSign := (List.mem_cons_of_mem _ (List.mem_append_left _ (List.mem_of_getElem? (i := 0) rfl)))
theorem hwX12_isSign_1 : (.fieldLink RX12 293 "FortyBeltsModel" "token" "I" : Cond) ∈ wsX12_isSign := (List.mem_cons_of_mem _ (List.mem_append_left _ (List.mem_of_getElem? (i := 1) rfl)))
theorem hwX12_isSign_2 : (.fieldLink RX12 300 "FortyBeltsModel" "tokenWorth" "J" : Cond) ∈ wsX12_isSign := (List.mem_cons_of_mem _ (List.mem_append_left _ (List.mem_of_getElem? (i := 2) rfl)))
theorem hcX12_isSign_X12 : ∀ w ∈ wsX120, w ∈ wsX12_isSign := fun _ h => (List.mem_cons_of_mem _ (List.mem_append_right _ h))
set_option maxHeartbeats 4000000 in
set_option maxRecDepth 100000 in
theorem J_X12_isSign {D : va_G} {KA : Nat → ClassId} {zs : ZS} {ad : Nat → Nat} {ids : List Nat} {sz : Nat} (l : Launch) (hI : ∀ c, c < 35 → c ∈ ids) {a1 : Int32}  {σ : St} {post : Int32 → St → Prop} (h : wX12_isSign  a1 σ post) : Met l yX12_isSign wsX12_isSign rmX12_isSign (va_Pc [.ref (ad 0), .int a1] (xIn D KA zs layR stR ad ids sz σ)) (va_Qi post (xOut D KA layR stR ad ids) (xA ad ids sz)) 0 0 (xA ad ids sz) := by
  refine Met.ofW (cc := cX12_isSign) (maxL := 2) (ret := (some .boolean)) (by decide) rfl ?_
  intro p e s m args below meth c s₁ B hml hv
  obtain ⟨hav, hsz, hK, hZ, hP, hD⟩ := hv
  have hx := B.exec
  have hb := B.bytes
  have hr := B.returns
  have hts := atoms_spec (ws := wsX12_isSign) B.pre
  have hown : s.vm.findClass RX12 = some m.cls := findClass_of_methodNamed B.named
  have hlocks := B.notSynchronized
  subst hsz
  have hA : ∀ q : Nat, s.heap.size ≤ q → xA ad ids s.heap.size q := fun q h => Or.inr h
  have hW : xW D KA layR stR ad ids (xA ad ids s.heap.size) s.heap σ s.heap [] := ⟨hP, xA_D (D := D) hD, va_S.rf⟩
  have kr : ∀ (v : Int32) (σ : St) (H : Heap) (locs : List Loc) (ls : Array Slot) (pc : Nat), xW D KA layR stR ad ids (xA ad ids s.heap.size) s.heap σ H locs → isB v → post v σ → decode cX12_isSign pc = .ok (.ireturn, 1) → W p l e rmX12_isSign s m args below meth c H locs 0 0 (MQ below (va_Qi post (xOut D KA layR stR ad ids) (xA ad ids s.heap.size)) args s 0 0 (xA ad ids s.heap.size)) (F0 m pc ls [.int v]) := fun v σ H locs ls pc hW hz h hd => x_zret hx hb hr hlocks hW hz h hd
  have hl := lv_entry ([.ref (ad 0), .int a1]) (n := 2) (Nat.le_of_ble_eq_true rfl)
  rw [show entryFrame m args 2 = entryFrame m ([.ref (ad 0), .int a1] : List Value).toArray 2 from by rw [hav]]
  rw [lg_entry_eq]
  generalize (lg_sl ([.ref (ad 0), .int a1]) ++ List.replicate (2 - (lg_sl ([.ref (ad 0), .int a1])).length) Slot.unset).toArray = ls at hl ⊢
  have hl : lv_has ls 2 [(0, .ref (ad 0)), (1, .int a1)] := hl
  show W p l e rmX12_isSign s m args below meth c s.heap [] 0 0 _ _
  generalize MQ below (va_Qi post (xOut D KA layR stR ad ids) (xA ad ids s.heap.size)) args s 0 0 (xA ad ids s.heap.size) = Q at kr ⊢
  have blk30 : ∀ (s0 : Int32) (σ : St) (H : Heap) (locs : List Loc) (ls : Array Slot), xW D KA layR stR ad ids (xA ad ids s.heap.size) s.heap σ H locs → lv_has ls 2 [] → wX12_isSign_30 post s0 σ → W p l e rmX12_isSign s m args below meth c H locs 0 0 Q (F0 m 30 ls [.int s0]) := by
    intro   s0 σ H locs ls hW hl h
    unfold wX12_isSign_30 at h
    obtain ⟨hz1, h⟩ := h
    exact kr _ _ _ _ _ _ hW hz1 h dX12_isSign_30
  have blk29 : ∀ (σ : St) (H : Heap) (locs : List Loc) (ls : Array Slot), xW D KA layR stR ad ids (xA ad ids s.heap.size) s.heap σ H locs → lv_has ls 2 [] → wX12_isSign_29 post  σ → W p l e rmX12_isSign s m args below meth c H locs 0 0 Q (F0 m 29 ls []) := by
    intro    σ H locs ls hW hl h
    unfold wX12_isSign_29 at h
    refine lv_iconst (v := 0) hx hb dX12_isSign_29 (by decide) ?_
    exact blk30   (0 : Int32) _ _ _ _ hW (lv_sub hl [] rfl) h
  have main : ∀ (H : Heap) (locs : List Loc) (ls : Array Slot), xW D KA layR stR ad ids (xA ad ids s.heap.size) s.heap σ H locs → lv_has ls 2 [(0, .ref (ad 0)), (1, .int a1)] → W p l e rmX12_isSign s m args below meth c H locs 0 0 Q (F0 m 0 ls []) := by
    intro H locs ls hW hl
    unfold wX12_isSign at h
    refine lv_aload_n hx hb dX12_isSign_0 rfl (lv_at hl 0 rfl) ?_
    refine xgX12_43 hx hb hts hown hK hW 0 hcX12_isSign_X12 (hI 0 (by decide)) lR_0 (hts _ hwX12_isSign_0) dX12_isSign_1 ?_
    refine lv_if_ne (tgt := 29) hx hb dX12_isSign_4 (by decide) (fun c1001 => ?_) (fun c1001 => ?_)
    · have h := h.1 c1001
      exact blk29    _ _ _ _ hW (lv_sub hl [] rfl) h
    · have h := h.2 c1001
      refine lv_aload_n hx hb dX12_isSign_7 rfl (lv_at hl 0 rfl) ?_
      refine xgX12_38 hx hb hts hown hK hW 0 hcX12_isSign_X12 (hI 0 (by decide)) lR_0 (hts _ hwX12_isSign_1) dX12_isSign_8 ?_
      refine lv_iconst (v := 3) hx hb dX12_isSign_11 (by decide) ?_
      refine lv_icmp_ne (tgt := 29) hx hb dX12_isSign_12 (by decide) (fun c1002 => ?_) (fun c1002 => ?_)
      · have h := h.1 c1002
        exact blk29    _ _ _ _ hW (lv_sub hl [] rfl) h
      · have h := h.2 c1002
        refine lv_aload_n hx hb dX12_isSign_15 rfl (lv_at hl 0 rfl) ?_
        refine xgX12_40 hx hb hts hown hK hW 0 hcX12_isSign_X12 (hI 0 (by decide)) lR_0 (hts _ hwX12_isSign_2) dX12_isSign_16 ?_
        refine lv_iload_n hx hb dX12_isSign_19 rfl (lv_at hl 1 rfl) ?_
        refine lv_i2l hx hb dX12_isSign_20 rfl ?_
        refine W.lcmp hx hb dX12_isSign_21 ?_
        refine lv_if_ne (tgt := 29) hx hb dX12_isSign_22 (by decide) (fun c1003 => ?_) (fun c1003 => ?_)
        · have h := h.1 c1003
          exact blk29    _ _ _ _ hW (lv_sub hl [] rfl) h
        · have h := h.2 c1003
          refine lv_iconst (v := 1) hx hb dX12_isSign_25 (by decide) ?_
          refine lv_goto (tgt := 30) hx hb dX12_isSign_26 (by decide) ?_
          exact blk30   (1 : Int32) _ _ _ _ hW (lv_sub hl [] rfl) h
  exact main _ _ _ hW hl
theorem hwX12_byteAt_0 : (.fieldLink RX12 278 "FortyBeltsModel" "size" "I" : Cond) ∈ wsX12_byteAt := (List.mem_cons_of_mem _ (List.mem_append_left _ (List.mem_of_getElem? (i := 0) rfl)))
theorem hwX12_byteAt_1 : (.fieldLink RX12 13 "FortyBeltsModel" "texts" "[I" : Cond) ∈ wsX12_byteAt := (List.mem_cons_of_mem _ (List.mem_append_left _ (List.mem_of_getElem? (i := 1) rfl)))
theorem hwX12_byteAt_2 : (.fieldLink RX12 281 "FortyBeltsModel" "textFrom" "I" : Cond) ∈ wsX12_byteAt := (List.mem_cons_of_mem _ (List.mem_append_left _ (List.mem_of_getElem? (i := 2) rfl)))
theorem hcX12_byteAt_X12 : ∀ w ∈ wsX120, w ∈ wsX12_byteAt := fun _ h => (List.mem_cons_of_mem _ (List.mem_append_right _ h))
set_option maxHeartbeats 4000000 in
set_option maxRecDepth 100000 in
theorem J_X12_byteAt {D : va_G} {KA : Nat → ClassId} {zs : ZS} {ad : Nat → Nat} {ids : List Nat} {sz : Nat} (l : Launch) (hI : ∀ c, c < 35 → c ∈ ids) {a1 : Int32}  {σ : St} {post : Int32 → St → Prop} (h : wX12_byteAt  a1 σ post) : Met l yX12_byteAt wsX12_byteAt rmX12_byteAt (va_Pc [.ref (ad 0), .int a1] (xIn D KA zs layR stR ad ids sz σ)) (va_Qi post (xOut D KA layR stR ad ids) (xA ad ids sz)) 0 0 (xA ad ids sz) := by
  refine Met.ofW (cc := cX12_byteAt) (maxL := 2) (ret := (some .int)) (by decide) rfl ?_
  intro p e s m args below meth c s₁ B hml hv
  obtain ⟨hav, hsz, hK, hZ, hP, hD⟩ := hv
  have hx := B.exec
  have hb := B.bytes
  have hr := B.returns
  have hts := atoms_spec (ws := wsX12_byteAt) B.pre
  have hown : s.vm.findClass RX12 = some m.cls := findClass_of_methodNamed B.named
  have hlocks := B.notSynchronized
  subst hsz
  have hA : ∀ q : Nat, s.heap.size ≤ q → xA ad ids s.heap.size q := fun q h => Or.inr h
  have hW : xW D KA layR stR ad ids (xA ad ids s.heap.size) s.heap σ s.heap [] := ⟨hP, xA_D (D := D) hD, va_S.rf⟩
  have kr : ∀ (v : Int32) (σ : St) (H : Heap) (locs : List Loc) (ls : Array Slot) (pc : Nat), xW D KA layR stR ad ids (xA ad ids s.heap.size) s.heap σ H locs → post v σ → decode cX12_byteAt pc = .ok (.ireturn, 1) → W p l e rmX12_byteAt s m args below meth c H locs 0 0 (MQ below (va_Qi post (xOut D KA layR stR ad ids) (xA ad ids s.heap.size)) args s 0 0 (xA ad ids s.heap.size)) (F0 m pc ls [.int v]) := fun v σ H locs ls pc hW h hd => x_iret hx hb hr hlocks hW h hd
  have hl := lv_entry ([.ref (ad 0), .int a1]) (n := 2) (Nat.le_of_ble_eq_true rfl)
  rw [show entryFrame m args 2 = entryFrame m ([.ref (ad 0), .int a1] : List Value).toArray 2 from by rw [hav]]
  rw [lg_entry_eq]
  generalize (lg_sl ([.ref (ad 0), .int a1]) ++ List.replicate (2 - (lg_sl ([.ref (ad 0), .int a1])).length) Slot.unset).toArray = ls at hl ⊢
  have hl : lv_has ls 2 [(0, .ref (ad 0)), (1, .int a1)] := hl
  show W p l e rmX12_byteAt s m args below meth c s.heap [] 0 0 _ _
  generalize MQ below (va_Qi post (xOut D KA layR stR ad ids) (xA ad ids s.heap.size)) args s 0 0 (xA ad ids s.heap.size) = Q at kr ⊢
  have blk23 : ∀ (s0 : Int32) (σ : St) (H : Heap) (locs : List Loc) (ls : Array Slot), xW D KA layR stR ad ids (xA ad ids s.heap.size) s.heap σ H locs → lv_has ls 2 [] → wX12_byteAt_23 post s0 σ → W p l e rmX12_byteAt s m args below meth c H locs 0 0 Q (F0 m 23 ls [.int s0]) := by
    intro   s0 σ H locs ls hW hl h
    unfold wX12_byteAt_23 at h
    exact kr _ _ _ _ _ _ hW h dX12_byteAt_23
  have main : ∀ (H : Heap) (locs : List Loc) (ls : Array Slot), xW D KA layR stR ad ids (xA ad ids s.heap.size) s.heap σ H locs → lv_has ls 2 [(0, .ref (ad 0)), (1, .int a1)] → W p l e rmX12_byteAt s m args below meth c H locs 0 0 Q (F0 m 0 ls []) := by
    intro H locs ls hW hl
    unfold wX12_byteAt at h
    refine lv_iload_n hx hb dX12_byteAt_0 rfl (lv_at hl 1 rfl) ?_
    refine lv_aload_n hx hb dX12_byteAt_1 rfl (lv_at hl 0 rfl) ?_
    refine xgX12_37 hx hb hts hown hK hW 0 hcX12_byteAt_X12 (hI 0 (by decide)) lR_0 (hts _ hwX12_byteAt_0) dX12_byteAt_2 ?_
    refine lv_icmp_ge (tgt := 22) hx hb dX12_byteAt_5 (by decide) (fun c1001 => ?_) (fun c1001 => ?_)
    · have h := h.1 c1001
      refine lv_iconst (v := (-1)) hx hb dX12_byteAt_22 (by decide) ?_
      exact blk23   (-1 : Int32) _ _ _ _ hW (lv_sub hl [] rfl) h
    · have h := h.2 c1001
      refine lv_aload_n hx hb dX12_byteAt_8 rfl (lv_at hl 0 rfl) ?_
      refine xgX12_1r hx hb hts hown hK hW 0 hcX12_byteAt_X12 (hI 0 (by decide)) lR_0 (hts _ hwX12_byteAt_1) (sR_0_1 _) dX12_byteAt_9 ?_
      refine lv_aload_n hx hb dX12_byteAt_12 rfl (lv_at hl 0 rfl) ?_
      refine xgX12_36 hx hb hts hown hK hW 0 hcX12_byteAt_X12 (hI 0 (by decide)) lR_0 (hts _ hwX12_byteAt_2) dX12_byteAt_13 ?_
      refine lv_iload_n hx hb dX12_byteAt_16 rfl (lv_at hl 1 rfl) ?_
      refine lv_iadd hx hb dX12_byteAt_17 ?_
      obtain ⟨hi1002, h⟩ := h
      refine x_iald hx hb hK hW 1 (hI 1 (by decide)) lR_1 hi1002 dX12_byteAt_18 ?_
      refine lv_goto (tgt := 23) hx hb dX12_byteAt_19 (by decide) ?_
      exact blk23   (gI σ 1 ((gI σ 0 36) + a1).toNatClampNeg) _ _ _ _ hW (lv_sub hl [] rfl) h
  exact main _ _ _ hW hl
set_option maxHeartbeats 4000000 in
set_option maxRecDepth 100000 in
theorem J_X12_in {D : va_G} {KA : Nat → ClassId} {zs : ZS} {ad : Nat → Nat} {ids : List Nat} {sz : Nat} (l : Launch) (hI : ∀ c, c < 35 → c ∈ ids) {a0 : Int64} {a2 : Int64} {a4 : Int64}  {σ : St} {post : Int32 → St → Prop} (h : wX12_in  a0 a2 a4 σ post) : Met l yX12_in wsX12_in rmX12_in (va_Pc [.long a0, .long a2, .long a4] (xIn D KA zs layR stR ad ids sz σ)) (va_Qi post (xOut D KA layR stR ad ids) (xA ad ids sz)) 0 0 (xA ad ids sz) := by
  refine Met.ofW (cc := cX12_in) (maxL := 6) (ret := (some .boolean)) (by decide) rfl ?_
  intro p e s m args below meth c s₁ B hml hv
  obtain ⟨hav, hsz, hK, hZ, hP, hD⟩ := hv
  have hx := B.exec
  have hb := B.bytes
  have hr := B.returns
  have hts := atoms_spec (ws := wsX12_in) B.pre
  have hown : s.vm.findClass RX12 = some m.cls := findClass_of_methodNamed B.named
  have hlocks := B.notSynchronized
  subst hsz
  have hA : ∀ q : Nat, s.heap.size ≤ q → xA ad ids s.heap.size q := fun q h => Or.inr h
  have hW : xW D KA layR stR ad ids (xA ad ids s.heap.size) s.heap σ s.heap [] := ⟨hP, xA_D (D := D) hD, va_S.rf⟩
  have kr : ∀ (v : Int32) (σ : St) (H : Heap) (locs : List Loc) (ls : Array Slot) (pc : Nat), xW D KA layR stR ad ids (xA ad ids s.heap.size) s.heap σ H locs → isB v → post v σ → decode cX12_in pc = .ok (.ireturn, 1) → W p l e rmX12_in s m args below meth c H locs 0 0 (MQ below (va_Qi post (xOut D KA layR stR ad ids) (xA ad ids s.heap.size)) args s 0 0 (xA ad ids s.heap.size)) (F0 m pc ls [.int v]) := fun v σ H locs ls pc hW hz h hd => x_zret hx hb hr hlocks hW hz h hd
  have hl := lv_entry ([.long a0, .long a2, .long a4]) (n := 6) (Nat.le_of_ble_eq_true rfl)
  rw [show entryFrame m args 6 = entryFrame m ([.long a0, .long a2, .long a4] : List Value).toArray 6 from by rw [hav]]
  rw [lg_entry_eq]
  generalize (lg_sl ([.long a0, .long a2, .long a4]) ++ List.replicate (6 - (lg_sl ([.long a0, .long a2, .long a4])).length) Slot.unset).toArray = ls at hl ⊢
  have hl : lv_has ls 6 [(0, .long a0), (2, .long a2), (4, .long a4)] := hl
  show W p l e rmX12_in s m args below meth c s.heap [] 0 0 _ _
  generalize MQ below (va_Qi post (xOut D KA layR stR ad ids) (xA ad ids s.heap.size)) args s 0 0 (xA ad ids s.heap.size) = Q at kr ⊢
  have blk18 : ∀ (s0 : Int32) (σ : St) (H : Heap) (locs : List Loc) (ls : Array Slot), xW D KA layR stR ad ids (xA ad ids s.heap.size) s.heap σ H locs → lv_has ls 6 [] → wX12_in_18 post s0 σ → W p l e rmX12_in s m args below meth c H locs 0 0 Q (F0 m 18 ls [.int s0]) := by
    intro   s0 σ H locs ls hW hl h
    unfold wX12_in_18 at h
    obtain ⟨hz1, h⟩ := h
    exact kr _ _ _ _ _ _ hW hz1 h dX12_in_18
  have blk17 : ∀ (σ : St) (H : Heap) (locs : List Loc) (ls : Array Slot), xW D KA layR stR ad ids (xA ad ids s.heap.size) s.heap σ H locs → lv_has ls 6 [] → wX12_in_17 post  σ → W p l e rmX12_in s m args below meth c H locs 0 0 Q (F0 m 17 ls []) := by
    intro    σ H locs ls hW hl h
    unfold wX12_in_17 at h
    refine lv_iconst (v := 0) hx hb dX12_in_17 (by decide) ?_
    exact blk18   (0 : Int32) _ _ _ _ hW (lv_sub hl [] rfl) h
  have main : ∀ (H : Heap) (locs : List Loc) (ls : Array Slot), xW D KA layR stR ad ids (xA ad ids s.heap.size) s.heap σ H locs → lv_has ls 6 [(0, .long a0), (2, .long a2), (4, .long a4)] → W p l e rmX12_in s m args below meth c H locs 0 0 Q (F0 m 0 ls []) := by
    intro H locs ls hW hl
    unfold wX12_in at h
    refine lv_lload_n hx hb dX12_in_0 rfl (lv_at hl 0 rfl) ?_
    refine lv_lload_n hx hb dX12_in_1 rfl (lv_at hl 1 rfl) ?_
    refine W.lcmp hx hb dX12_in_2 ?_
    refine lv_if_lt (tgt := 17) hx hb dX12_in_3 (by decide) (fun c1001 => ?_) (fun c1001 => ?_)
    · have h := h.1 c1001
      exact blk17    _ _ _ _ hW (lv_sub hl [] rfl) h
    · have h := h.2 c1001
      refine lv_lload_n hx hb dX12_in_6 rfl (lv_at hl 0 rfl) ?_
      refine lv_lload hx hb dX12_in_7 (lv_at hl 2 rfl) ?_
      refine W.lcmp hx hb dX12_in_9 ?_
      refine lv_if_gt (tgt := 17) hx hb dX12_in_10 (by decide) (fun c1002 => ?_) (fun c1002 => ?_)
      · have h := h.1 c1002
        exact blk17    _ _ _ _ hW (lv_sub hl [] rfl) h
      · have h := h.2 c1002
        refine lv_iconst (v := 1) hx hb dX12_in_13 (by decide) ?_
        refine lv_goto (tgt := 18) hx hb dX12_in_14 (by decide) ?_
        exact blk18   (1 : Int32) _ _ _ _ hW (lv_sub hl [] rfl) h
  exact main _ _ _ hW hl
theorem hwX12_next_0 : (.fieldLink RX12 293 "FortyBeltsModel" "token" "I" : Cond) ∈ wsX12_next := (List.mem_cons_of_mem _ (List.mem_append_left _ (List.mem_of_getElem? (i := 2) rfl)))
theorem hwX12_next_1 : (.fieldLink RX12 300 "FortyBeltsModel" "tokenWorth" "J" : Cond) ∈ wsX12_next := (List.mem_cons_of_mem _ (List.mem_append_left _ (List.mem_of_getElem? (i := 6) rfl)))
theorem hwX12_next_2 : (.fieldLink RX12 284 "FortyBeltsModel" "here" "I" : Cond) ∈ wsX12_next := (List.mem_cons_of_mem _ (List.mem_append_left _ (List.mem_of_getElem? (i := 0) rfl)))
theorem hwX12_next_3 : (.constantLong RX12 310 (48) : Cond) ∈ wsX12_next := (List.mem_cons_of_mem _ (List.mem_append_left _ (List.mem_of_getElem? (i := 10) rfl)))
theorem hwX12_next_4 : (.constantLong RX12 312 (57) : Cond) ∈ wsX12_next := (List.mem_cons_of_mem _ (List.mem_append_left _ (List.mem_of_getElem? (i := 11) rfl)))
theorem hwX12_next_5 : (.constantLong RX12 314 (10) : Cond) ∈ wsX12_next := (List.mem_cons_of_mem _ (List.mem_append_left _ (List.mem_of_getElem? (i := 12) rfl)))
theorem hwX12_next_6 : (.constantLong RX12 296 (97) : Cond) ∈ wsX12_next := (List.mem_cons_of_mem _ (List.mem_append_left _ (List.mem_of_getElem? (i := 4) rfl)))
theorem hwX12_next_7 : (.constantLong RX12 298 (122) : Cond) ∈ wsX12_next := (List.mem_cons_of_mem _ (List.mem_append_left _ (List.mem_of_getElem? (i := 5) rfl)))
theorem hwX12_next_8 : (.constantLong RX12 308 (-1) : Cond) ∈ wsX12_next := (List.mem_cons_of_mem _ (List.mem_append_left _ (List.mem_of_getElem? (i := 9) rfl)))
theorem hwX12_next_9 : (.constantLong RX12 304 (27) : Cond) ∈ wsX12_next := (List.mem_cons_of_mem _ (List.mem_append_left _ (List.mem_of_getElem? (i := 7) rfl)))
theorem hwX12_next_10 : (.constantLong RX12 306 (96) : Cond) ∈ wsX12_next := (List.mem_cons_of_mem _ (List.mem_append_left _ (List.mem_of_getElem? (i := 8) rfl)))
theorem hwX12_next_11 : (.fieldLink RX12 290 "FortyBeltsModel" "tokenAt" "I" : Cond) ∈ wsX12_next := (List.mem_cons_of_mem _ (List.mem_append_left _ (List.mem_of_getElem? (i := 1) rfl)))
theorem hwX12_next_12 : (.fieldLink RX12 278 "FortyBeltsModel" "size" "I" : Cond) ∈ wsX12_next := (List.mem_cons_of_mem _ (List.mem_append_left _ (List.mem_of_getElem? (i := 3) rfl)))
theorem hcX12_next_X12 : ∀ w ∈ wsX120, w ∈ wsX12_next := fun _ h => (List.mem_cons_of_mem _ (List.mem_append_right _ h))
set_option maxHeartbeats 4000000 in
set_option maxRecDepth 100000 in
theorem J_X12_next {D : va_G} {KA : Nat → ClassId} {zs : ZS} {ad : Nat → Nat} {ids : List Nat} {sz : Nat} (l : Launch) (hI : ∀ c, c < 35 → c ∈ ids)   {σ : St} {post : St → Prop} (h : wX12_next   σ post) : Met l yX12_next wsX12_next rmX12_next (va_Pc [.ref (ad 0)] (xIn D KA zs layR stR ad ids sz σ)) (va_Qv post (xOut D KA layR stR ad ids) (xA ad ids sz)) 0 0 (xA ad ids sz) := by
  refine Met.ofW (cc := cX12_next) (maxL := 3) (ret := none) (by decide) rfl ?_
  intro p e s m args below meth c s₁ B hml hv
  obtain ⟨hav, hsz, hK, hZ, hP, hD⟩ := hv
  have hx := B.exec
  have hb := B.bytes
  have hr := B.returns
  have hts := atoms_spec (ws := wsX12_next) B.pre
  have hown : s.vm.findClass RX12 = some m.cls := findClass_of_methodNamed B.named
  have hlocks := B.notSynchronized
  subst hsz
  have hA : ∀ q : Nat, s.heap.size ≤ q → xA ad ids s.heap.size q := fun q h => Or.inr h
  have hW : xW D KA layR stR ad ids (xA ad ids s.heap.size) s.heap σ s.heap [] := ⟨hP, xA_D (D := D) hD, va_S.rf⟩
  have kr : ∀ (σ : St) (H : Heap) (locs : List Loc) (ls : Array Slot) (pc : Nat), xW D KA layR stR ad ids (xA ad ids s.heap.size) s.heap σ H locs → post σ → decode cX12_next pc = .ok (.return_, 1) → W p l e rmX12_next s m args below meth c H locs 0 0 (MQ below (va_Qv post (xOut D KA layR stR ad ids) (xA ad ids s.heap.size)) args s 0 0 (xA ad ids s.heap.size)) (F0 m pc ls []) := fun σ H locs ls pc hW h hd => x_vret hx hb hr hlocks hW h hd
  have hl := lv_entry ([.ref (ad 0)]) (n := 3) (Nat.le_of_ble_eq_true rfl)
  rw [show entryFrame m args 3 = entryFrame m ([.ref (ad 0)] : List Value).toArray 3 from by rw [hav]]
  rw [lg_entry_eq]
  generalize (lg_sl ([.ref (ad 0)]) ++ List.replicate (3 - (lg_sl ([.ref (ad 0)])).length) Slot.unset).toArray = ls at hl ⊢
  have hl : lv_has ls 3 [(0, .ref (ad 0))] := hl
  show W p l e rmX12_next s m args below meth c s.heap [] 0 0 _ _
  generalize MQ below (va_Qv post (xOut D KA layR stR ad ids) (xA ad ids s.heap.size)) args s 0 0 (xA ad ids s.heap.size) = Q at kr ⊢
  have blk372 : ∀ (σ : St) (H : Heap) (locs : List Loc) (ls : Array Slot), xW D KA layR stR ad ids (xA ad ids s.heap.size) s.heap σ H locs → lv_has ls 3 [] → wX12_next_372 post  σ → W p l e rmX12_next s m args below meth c H locs 0 0 Q (F0 m 372 ls []) := by
    intro    σ H locs ls hW hl h
    unfold wX12_next_372 at h
    exact kr _ _ _ _ _ hW h dX12_next_372
  have blk351 : ∀ (x1 : Int32) (σ : St) (H : Heap) (locs : List Loc) (ls : Array Slot), xW D KA layR stR ad ids (xA ad ids s.heap.size) s.heap σ H locs → lv_has ls 3 [(0, .ref (ad 0)), (1, .int x1)] → wX12_next_351 post x1 σ → W p l e rmX12_next s m args below meth c H locs 0 0 Q (F0 m 351 ls []) := by
    intro   x1 σ H locs ls hW hl h
    unfold wX12_next_351 at h
    refine lv_aload_n hx hb dX12_next_351 rfl (lv_at hl 0 rfl) ?_
    refine lv_iconst (v := 3) hx hb dX12_next_352 (by decide) ?_
    refine xpX12_38 hx hb hts hown hK hW 0 hcX12_next_X12 (hI 0 (by decide)) lR_0 (hts _ hwX12_next_0) dX12_next_353 (fun σ1 H locs hσ1 hW => ?_)
    have h := h σ1 hσ1
    refine lv_aload_n hx hb dX12_next_356 rfl (lv_at hl 0 rfl) ?_
    refine lv_iload_n hx hb dX12_next_357 rfl (lv_at hl 1 rfl) ?_
    refine lv_i2l hx hb dX12_next_358 rfl ?_
    refine xpX12_40 hx hb hts hown hK hW 0 hcX12_next_X12 (hI 0 (by decide)) lR_0 (hts _ hwX12_next_1) dX12_next_359 (fun σ2 H locs hσ2 hW => ?_)
    have h := h σ2 hσ2
    refine lv_aload_n hx hb dX12_next_362 rfl (lv_at hl 0 rfl) ?_
    refine lv_dup hx hb dX12_next_363 rfl ?_
    refine xgX12_41 hx hb hts hown hK hW 0 hcX12_next_X12 (hI 0 (by decide)) lR_0 (hts _ hwX12_next_2) dX12_next_364 ?_
    refine lv_iconst (v := 1) hx hb dX12_next_367 (by decide) ?_
    refine lv_iadd hx hb dX12_next_368 ?_
    refine xpX12_41 hx hb hts hown hK hW 0 hcX12_next_X12 (hI 0 (by decide)) lR_0 (hts _ hwX12_next_2) dX12_next_369 (fun σ3 H locs hσ3 hW => ?_)
    have h := h σ3 hσ3
    exact blk372    _ _ _ _ hW (lv_sub hl [] rfl) h
  have blk297 : ∀ (s1 : Int32) (σ : St) (H : Heap) (locs : List Loc) (ls : Array Slot), xW D KA layR stR ad ids (xA ad ids s.heap.size) s.heap σ H locs → lv_has ls 3 [] → wX12_next_297 post s1 σ → W p l e rmX12_next s m args below meth c H locs 0 0 Q (F0 m 297 ls [.int s1, .ref (ad 0)]) := by
    intro   s1 σ H locs ls hW hl h
    unfold wX12_next_297 at h
    refine xpX12_38 hx hb hts hown hK hW 0 hcX12_next_X12 (hI 0 (by decide)) lR_0 (hts _ hwX12_next_0) dX12_next_297 (fun σ4 H locs hσ4 hW => ?_)
    have h := h σ4 hσ4
    refine lv_goto (tgt := 372) hx hb dX12_next_300 (by decide) ?_
    exact blk372    _ _ _ _ hW (lv_sub hl [] rfl) h
  have blk267 : ∀ (k211 : Int32 → St → Prop) (hk211 : ∀ (x2 : Int32) (σ : St) (H : Heap) (locs : List Loc) (ls : Array Slot), xW D KA layR stR ad ids (xA ad ids s.heap.size) s.heap σ H locs → lv_has ls 3 [(0, .ref (ad 0)), (2, .int x2)] → k211 x2 σ → W p l e rmX12_next s m args below meth c H locs 0 0 Q (F0 m 211 ls [])) (x2 : Int32) (s1 : Int64) (σ : St) (H : Heap) (locs : List Loc) (ls : Array Slot), xW D KA layR stR ad ids (xA ad ids s.heap.size) s.heap σ H locs → lv_has ls 3 [(0, .ref (ad 0)), (2, .int x2)] → wX12_next_267 k211 post x2 s1 σ → W p l e rmX12_next s m args below meth c H locs 0 0 Q (F0 m 267 ls [.long s1, .ref (ad 0)]) := by
    intro  k211 hk211 x2 s1 σ H locs ls hW hl h
    unfold wX12_next_267 at h
    refine xpX12_40 hx hb hts hown hK hW 0 hcX12_next_X12 (hI 0 (by decide)) lR_0 (hts _ hwX12_next_1) dX12_next_267 (fun σ5 H locs hσ5 hW => ?_)
    have h := h σ5 hσ5
    obtain ⟨v6, hv6⟩ : ∃ y : Int32, y = x2 + (1 : Int32) := ⟨_, rfl⟩
    have h := h v6 hv6
    refine lv_iinc (v := v6) (lv' := [(2, .int v6), (0, .ref (ad 0))]) hx hb dX12_next_270 hl (k := 1) rfl (by rw [hv6]; rfl) (by decide) rfl (fun ls hl => ?_)
    refine lv_aload_n hx hb dX12_next_273 rfl (lv_at hl 1 rfl) ?_
    refine lv_dup hx hb dX12_next_274 rfl ?_
    refine xgX12_41 hx hb hts hown hK hW 0 hcX12_next_X12 (hI 0 (by decide)) lR_0 (hts _ hwX12_next_2) dX12_next_275 ?_
    refine lv_iconst (v := 1) hx hb dX12_next_278 (by decide) ?_
    refine lv_iadd hx hb dX12_next_279 ?_
    refine xpX12_41 hx hb hts hown hK hW 0 hcX12_next_X12 (hI 0 (by decide)) lR_0 (hts _ hwX12_next_2) dX12_next_280 (fun σ7 H locs hσ7 hW => ?_)
    have h := h σ7 hσ7
    refine lv_goto (tgt := 211) hx hb dX12_next_283 (by decide) ?_
    exact hk211 v6 _ _ _ _ hW (lv_sub hl [1, 0] rfl) h
  have blk211 : ∀ (n : Nat) (x2 : Int32) (σ : St) (H : Heap) (locs : List Loc) (ls : Array Slot), xW D KA layR stR ad ids (xA ad ids s.heap.size) s.heap σ H locs → lv_has ls 3 [(0, .ref (ad 0)), (2, .int x2)] → wX12_next_211 post  n x2 σ → W p l e rmX12_next s m args below meth c H locs 0 0 Q (F0 m 211 ls []) := by
    intro    n
    induction n with
    | zero => intro x2 σ H locs ls hW hl h; exact (h : False).elim
    | succ n ih =>
      intro x2 σ H locs ls hW hl h
      have hk211 : ∀ (x2 : Int32) (σ : St) (H : Heap) (locs : List Loc) (ls : Array Slot), xW D KA layR stR ad ids (xA ad ids s.heap.size) s.heap σ H locs → lv_has ls 3 [(0, .ref (ad 0)), (2, .int x2)] → (wX12_next_211 post  n) x2 σ → W p l e rmX12_next s m args below meth c H locs 0 0 Q (F0 m 211 ls []) := fun x2 σ H locs ls hW hl h => ih x2 σ H locs ls hW hl h
      rw [wX12_next_211_s] at h
      try dsimp only at h
      generalize wX12_next_211 post  n = k211 at h hk211
      refine lv_aload_n hx hb dX12_next_211 rfl (lv_at hl 0 rfl) ?_
      refine lv_aload_n hx hb dX12_next_212 rfl (lv_at hl 0 rfl) ?_
      refine xgX12_41 hx hb hts hown hK hW 0 hcX12_next_X12 (hI 0 (by decide)) lR_0 (hts _ hwX12_next_2) dX12_next_213 ?_
      refine x_calli (va_runV (As := [.int (gI σ 0 41)]) (rest := []) ⟨hx, hb, hml, hown, hts⟩ (J_X12_byteAt l hI h) (cwV 1 hts gX12_next_X12_byteAt rfl rfl rfl hdV_X12_byteAt ⟨Nat.le_of_ble_eq_true rfl, Nat.le_of_ble_eq_true rfl⟩) (x_preV (ci := 12) hK hZ hA hW (hI 0 (by decide)) lR_0 rfl) rfl rfl hl.1 rfl (lv_room (Nat.le_of_ble_eq_true rfl)) dX12_next_216 ⟨Nat.zero_le _, Nat.zero_le _⟩) hW hA (fun r9 σ8 H locs h hW => ?_)
      try dsimp only at h
      refine lv_i2l hx hb dX12_next_219 rfl ?_
      refine lv_ldc2 hx hb hown (hts _ hwX12_next_3) dX12_next_220 ?_
      refine lv_ldc2 hx hb hown (hts _ hwX12_next_4) dX12_next_223 ?_
      refine x_calli (va_runS (As := [.long (r9.toInt64), .long (48 : Int64), .long (57 : Int64)]) (rest := []) ⟨hx, hb, hml, hown, hts⟩ (J_X12_in l hI h) (va_cwS 3 hts gX12_next_X12_in rfl rfl rfl hdS_X12_in ⟨Nat.le_of_ble_eq_true rfl, Nat.le_of_ble_eq_true rfl⟩) (x_preS hK hZ hA hW) rfl rfl hl.1 rfl (lv_room (Nat.le_of_ble_eq_true rfl)) dX12_next_226 ⟨Nat.zero_le _, Nat.zero_le _⟩) hW hA (fun r11 σ10 H locs h hW => ?_)
      try dsimp only at h
      refine lv_if_eq (tgt := 286) hx hb dX12_next_229 (by decide) (fun c12 => ?_) (fun c12 => ?_)
      · have h := h.1 c12
        refine lv_aload_n hx hb dX12_next_286 rfl (lv_at hl 0 rfl) ?_
        refine lv_iload_n hx hb dX12_next_287 rfl (lv_at hl 1 rfl) ?_
        refine lv_iconst (v := 4) hx hb dX12_next_288 (by decide) ?_
        refine lv_icmp_le (tgt := 296) hx hb dX12_next_289 (by decide) (fun c13 => ?_) (fun c13 => ?_)
        · have h := h.1 c13
          refine lv_iconst (v := 2) hx hb dX12_next_296 (by decide) ?_
          exact blk297   (2 : Int32) _ _ _ _ hW (lv_sub hl [] rfl) h
        · have h := h.2 c13
          refine lv_iconst (v := 4) hx hb dX12_next_292 (by decide) ?_
          refine lv_goto (tgt := 297) hx hb dX12_next_293 (by decide) ?_
          exact blk297   (4 : Int32) _ _ _ _ hW (lv_sub hl [] rfl) h
      · have h := h.2 c12
        refine lv_aload_n hx hb dX12_next_232 rfl (lv_at hl 0 rfl) ?_
        refine lv_iload_n hx hb dX12_next_233 rfl (lv_at hl 1 rfl) ?_
        refine lv_iconst (v := 4) hx hb dX12_next_234 (by decide) ?_
        refine lv_icmp_ge (tgt := 263) hx hb dX12_next_235 (by decide) (fun c14 => ?_) (fun c14 => ?_)
        · have h := h.1 c14
          refine lv_aload_n hx hb dX12_next_263 rfl (lv_at hl 0 rfl) ?_
          refine xgX12_40 hx hb hts hown hK hW 0 hcX12_next_X12 (hI 0 (by decide)) lR_0 (hts _ hwX12_next_1) dX12_next_264 ?_
          exact blk267  k211 hk211 x2 (gJ σ10 0 40) _ _ _ _ hW (lv_sub hl [0, 1] rfl) h
        · have h := h.2 c14
          refine lv_ldc2 hx hb hown (hts _ hwX12_next_5) dX12_next_238 ?_
          refine lv_aload_n hx hb dX12_next_241 rfl (lv_at hl 0 rfl) ?_
          refine xgX12_40 hx hb hts hown hK hW 0 hcX12_next_X12 (hI 0 (by decide)) lR_0 (hts _ hwX12_next_1) dX12_next_242 ?_
          refine lv_lmul hx hb dX12_next_245 ?_
          refine lv_aload_n hx hb dX12_next_246 rfl (lv_at hl 0 rfl) ?_
          refine lv_aload_n hx hb dX12_next_247 rfl (lv_at hl 0 rfl) ?_
          refine xgX12_41 hx hb hts hown hK hW 0 hcX12_next_X12 (hI 0 (by decide)) lR_0 (hts _ hwX12_next_2) dX12_next_248 ?_
          refine x_calli (va_runV (As := [.int (gI σ10 0 41)]) (rest := [.long ((10 : Int64) * (gJ σ10 0 40)), .ref (ad 0)]) ⟨hx, hb, hml, hown, hts⟩ (J_X12_byteAt l hI h) (cwV 1 hts gX12_next_X12_byteAt rfl rfl rfl hdV_X12_byteAt ⟨Nat.le_of_ble_eq_true rfl, Nat.le_of_ble_eq_true rfl⟩) (x_preV (ci := 12) hK hZ hA hW (hI 0 (by decide)) lR_0 rfl) rfl rfl hl.1 rfl (lv_room (Nat.le_of_ble_eq_true rfl)) dX12_next_251 ⟨Nat.zero_le _, Nat.zero_le _⟩) hW hA (fun r16 σ15 H locs h hW => ?_)
          try dsimp only at h
          refine lv_i2l hx hb dX12_next_254 rfl ?_
          refine lv_ladd hx hb dX12_next_255 ?_
          refine lv_ldc2 hx hb hown (hts _ hwX12_next_3) dX12_next_256 ?_
          refine lv_lsub hx hb dX12_next_259 ?_
          refine lv_goto (tgt := 267) hx hb dX12_next_260 (by decide) ?_
          exact blk267  k211 hk211 x2 ((((10 : Int64) * (gJ σ10 0 40)) + (r16.toInt64)) - (48 : Int64)) _ _ _ _ hW (lv_sub hl [0, 1] rfl) h
  have blk163 : ∀ (k107 : Int32 → St → Prop) (hk107 : ∀ (x2 : Int32) (σ : St) (H : Heap) (locs : List Loc) (ls : Array Slot), xW D KA layR stR ad ids (xA ad ids s.heap.size) s.heap σ H locs → lv_has ls 3 [(0, .ref (ad 0)), (2, .int x2)] → k107 x2 σ → W p l e rmX12_next s m args below meth c H locs 0 0 Q (F0 m 107 ls [])) (x2 : Int32) (s1 : Int64) (σ : St) (H : Heap) (locs : List Loc) (ls : Array Slot), xW D KA layR stR ad ids (xA ad ids s.heap.size) s.heap σ H locs → lv_has ls 3 [(0, .ref (ad 0)), (2, .int x2)] → wX12_next_163 k107 post x2 s1 σ → W p l e rmX12_next s m args below meth c H locs 0 0 Q (F0 m 163 ls [.long s1, .ref (ad 0)]) := by
    intro  k107 hk107 x2 s1 σ H locs ls hW hl h
    unfold wX12_next_163 at h
    refine xpX12_40 hx hb hts hown hK hW 0 hcX12_next_X12 (hI 0 (by decide)) lR_0 (hts _ hwX12_next_1) dX12_next_163 (fun σ17 H locs hσ17 hW => ?_)
    have h := h σ17 hσ17
    obtain ⟨v18, hv18⟩ : ∃ y : Int32, y = x2 + (1 : Int32) := ⟨_, rfl⟩
    have h := h v18 hv18
    refine lv_iinc (v := v18) (lv' := [(2, .int v18), (0, .ref (ad 0))]) hx hb dX12_next_166 hl (k := 1) rfl (by rw [hv18]; rfl) (by decide) rfl (fun ls hl => ?_)
    refine lv_aload_n hx hb dX12_next_169 rfl (lv_at hl 1 rfl) ?_
    refine lv_dup hx hb dX12_next_170 rfl ?_
    refine xgX12_41 hx hb hts hown hK hW 0 hcX12_next_X12 (hI 0 (by decide)) lR_0 (hts _ hwX12_next_2) dX12_next_171 ?_
    refine lv_iconst (v := 1) hx hb dX12_next_174 (by decide) ?_
    refine lv_iadd hx hb dX12_next_175 ?_
    refine xpX12_41 hx hb hts hown hK hW 0 hcX12_next_X12 (hI 0 (by decide)) lR_0 (hts _ hwX12_next_2) dX12_next_176 (fun σ19 H locs hσ19 hW => ?_)
    have h := h σ19 hσ19
    refine lv_goto (tgt := 107) hx hb dX12_next_179 (by decide) ?_
    exact hk107 v18 _ _ _ _ hW (lv_sub hl [1, 0] rfl) h
  have blk107 : ∀ (n : Nat) (x2 : Int32) (σ : St) (H : Heap) (locs : List Loc) (ls : Array Slot), xW D KA layR stR ad ids (xA ad ids s.heap.size) s.heap σ H locs → lv_has ls 3 [(0, .ref (ad 0)), (2, .int x2)] → wX12_next_107 post  n x2 σ → W p l e rmX12_next s m args below meth c H locs 0 0 Q (F0 m 107 ls []) := by
    intro    n
    induction n with
    | zero => intro x2 σ H locs ls hW hl h; exact (h : False).elim
    | succ n ih =>
      intro x2 σ H locs ls hW hl h
      have hk107 : ∀ (x2 : Int32) (σ : St) (H : Heap) (locs : List Loc) (ls : Array Slot), xW D KA layR stR ad ids (xA ad ids s.heap.size) s.heap σ H locs → lv_has ls 3 [(0, .ref (ad 0)), (2, .int x2)] → (wX12_next_107 post  n) x2 σ → W p l e rmX12_next s m args below meth c H locs 0 0 Q (F0 m 107 ls []) := fun x2 σ H locs ls hW hl h => ih x2 σ H locs ls hW hl h
      rw [wX12_next_107_s] at h
      try dsimp only at h
      generalize wX12_next_107 post  n = k107 at h hk107
      refine lv_aload_n hx hb dX12_next_107 rfl (lv_at hl 0 rfl) ?_
      refine lv_aload_n hx hb dX12_next_108 rfl (lv_at hl 0 rfl) ?_
      refine xgX12_41 hx hb hts hown hK hW 0 hcX12_next_X12 (hI 0 (by decide)) lR_0 (hts _ hwX12_next_2) dX12_next_109 ?_
      refine x_calli (va_runV (As := [.int (gI σ 0 41)]) (rest := []) ⟨hx, hb, hml, hown, hts⟩ (J_X12_byteAt l hI h) (cwV 1 hts gX12_next_X12_byteAt rfl rfl rfl hdV_X12_byteAt ⟨Nat.le_of_ble_eq_true rfl, Nat.le_of_ble_eq_true rfl⟩) (x_preV (ci := 12) hK hZ hA hW (hI 0 (by decide)) lR_0 rfl) rfl rfl hl.1 rfl (lv_room (Nat.le_of_ble_eq_true rfl)) dX12_next_112 ⟨Nat.zero_le _, Nat.zero_le _⟩) hW hA (fun r21 σ20 H locs h hW => ?_)
      try dsimp only at h
      refine lv_i2l hx hb dX12_next_115 rfl ?_
      refine lv_ldc2 hx hb hown (hts _ hwX12_next_6) dX12_next_116 ?_
      refine lv_ldc2 hx hb hown (hts _ hwX12_next_7) dX12_next_119 ?_
      refine x_calli (va_runS (As := [.long (r21.toInt64), .long (97 : Int64), .long (122 : Int64)]) (rest := []) ⟨hx, hb, hml, hown, hts⟩ (J_X12_in l hI h) (va_cwS 3 hts gX12_next_X12_in rfl rfl rfl hdS_X12_in ⟨Nat.le_of_ble_eq_true rfl, Nat.le_of_ble_eq_true rfl⟩) (x_preS hK hZ hA hW) rfl rfl hl.1 rfl (lv_room (Nat.le_of_ble_eq_true rfl)) dX12_next_122 ⟨Nat.zero_le _, Nat.zero_le _⟩) hW hA (fun r23 σ22 H locs h hW => ?_)
      try dsimp only at h
      refine lv_if_eq (tgt := 182) hx hb dX12_next_125 (by decide) (fun c24 => ?_) (fun c24 => ?_)
      · have h := h.1 c24
        refine lv_goto (tgt := 372) hx hb dX12_next_182 (by decide) ?_
        exact blk372    _ _ _ _ hW (lv_sub hl [] rfl) h
      · have h := h.2 c24
        refine lv_aload_n hx hb dX12_next_128 rfl (lv_at hl 0 rfl) ?_
        refine lv_iload_n hx hb dX12_next_129 rfl (lv_at hl 1 rfl) ?_
        refine lv_bipush (v := 8) hx hb dX12_next_130 (by decide) ?_
        refine lv_icmp_ge (tgt := 160) hx hb dX12_next_132 (by decide) (fun c25 => ?_) (fun c25 => ?_)
        · have h := h.1 c25
          refine lv_ldc2 hx hb hown (hts _ hwX12_next_8) dX12_next_160 ?_
          exact blk163  k107 hk107 x2 (-1 : Int64) _ _ _ _ hW (lv_sub hl [0, 1] rfl) h
        · have h := h.2 c25
          refine lv_ldc2 hx hb hown (hts _ hwX12_next_9) dX12_next_135 ?_
          refine lv_aload_n hx hb dX12_next_138 rfl (lv_at hl 0 rfl) ?_
          refine xgX12_40 hx hb hts hown hK hW 0 hcX12_next_X12 (hI 0 (by decide)) lR_0 (hts _ hwX12_next_1) dX12_next_139 ?_
          refine lv_lmul hx hb dX12_next_142 ?_
          refine lv_aload_n hx hb dX12_next_143 rfl (lv_at hl 0 rfl) ?_
          refine lv_aload_n hx hb dX12_next_144 rfl (lv_at hl 0 rfl) ?_
          refine xgX12_41 hx hb hts hown hK hW 0 hcX12_next_X12 (hI 0 (by decide)) lR_0 (hts _ hwX12_next_2) dX12_next_145 ?_
          refine x_calli (va_runV (As := [.int (gI σ22 0 41)]) (rest := [.long ((27 : Int64) * (gJ σ22 0 40)), .ref (ad 0)]) ⟨hx, hb, hml, hown, hts⟩ (J_X12_byteAt l hI h) (cwV 1 hts gX12_next_X12_byteAt rfl rfl rfl hdV_X12_byteAt ⟨Nat.le_of_ble_eq_true rfl, Nat.le_of_ble_eq_true rfl⟩) (x_preV (ci := 12) hK hZ hA hW (hI 0 (by decide)) lR_0 rfl) rfl rfl hl.1 rfl (lv_room (Nat.le_of_ble_eq_true rfl)) dX12_next_148 ⟨Nat.zero_le _, Nat.zero_le _⟩) hW hA (fun r27 σ26 H locs h hW => ?_)
          try dsimp only at h
          refine lv_i2l hx hb dX12_next_151 rfl ?_
          refine lv_ladd hx hb dX12_next_152 ?_
          refine lv_ldc2 hx hb hown (hts _ hwX12_next_10) dX12_next_153 ?_
          refine lv_lsub hx hb dX12_next_156 ?_
          refine lv_goto (tgt := 163) hx hb dX12_next_157 (by decide) ?_
          exact blk163  k107 hk107 x2 ((((27 : Int64) * (gJ σ22 0 40)) + (r27.toInt64)) - (96 : Int64)) _ _ _ _ hW (lv_sub hl [0, 1] rfl) h
  have blk26 : ∀ (k0 : St → Prop) (hk0 : ∀ (σ : St) (H : Heap) (locs : List Loc) (ls : Array Slot), xW D KA layR stR ad ids (xA ad ids s.heap.size) s.heap σ H locs → lv_has ls 3 [(0, .ref (ad 0))] → k0  σ → W p l e rmX12_next s m args below meth c H locs 0 0 Q (F0 m 0 ls []))  (σ : St) (H : Heap) (locs : List Loc) (ls : Array Slot), xW D KA layR stR ad ids (xA ad ids s.heap.size) s.heap σ H locs → lv_has ls 3 [(0, .ref (ad 0))] → wX12_next_26 k0 post  σ → W p l e rmX12_next s m args below meth c H locs 0 0 Q (F0 m 26 ls []) := by
    intro  k0 hk0  σ H locs ls hW hl h
    unfold wX12_next_26 at h
    refine lv_aload_n hx hb dX12_next_26 rfl (lv_at hl 0 rfl) ?_
    refine lv_dup hx hb dX12_next_27 rfl ?_
    refine xgX12_41 hx hb hts hown hK hW 0 hcX12_next_X12 (hI 0 (by decide)) lR_0 (hts _ hwX12_next_2) dX12_next_28 ?_
    refine lv_iconst (v := 1) hx hb dX12_next_31 (by decide) ?_
    refine lv_iadd hx hb dX12_next_32 ?_
    refine xpX12_41 hx hb hts hown hK hW 0 hcX12_next_X12 (hI 0 (by decide)) lR_0 (hts _ hwX12_next_2) dX12_next_33 (fun σ28 H locs hσ28 hW => ?_)
    have h := h σ28 hσ28
    refine lv_goto (tgt := 0) hx hb dX12_next_36 (by decide) ?_
    exact hk0  _ _ _ _ hW (lv_sub hl [0] rfl) h
  have blk0 : ∀ (n : Nat)  (σ : St) (H : Heap) (locs : List Loc) (ls : Array Slot), xW D KA layR stR ad ids (xA ad ids s.heap.size) s.heap σ H locs → lv_has ls 3 [(0, .ref (ad 0))] → wX12_next_0 post  n  σ → W p l e rmX12_next s m args below meth c H locs 0 0 Q (F0 m 0 ls []) := by
    intro    n
    induction n with
    | zero => intro  σ H locs ls hW hl h; exact (h : False).elim
    | succ n ih =>
      intro  σ H locs ls hW hl h
      have hk0 : ∀  (σ : St) (H : Heap) (locs : List Loc) (ls : Array Slot), xW D KA layR stR ad ids (xA ad ids s.heap.size) s.heap σ H locs → lv_has ls 3 [(0, .ref (ad 0))] → (wX12_next_0 post  n)  σ → W p l e rmX12_next s m args below meth c H locs 0 0 Q (F0 m 0 ls []) := fun  σ H locs ls hW hl h => ih  σ H locs ls hW hl h
      rw [wX12_next_0_s] at h
      try dsimp only at h
      generalize wX12_next_0 post  n = k0 at h hk0
      refine lv_aload_n hx hb dX12_next_0 rfl (lv_at hl 0 rfl) ?_
      refine lv_aload_n hx hb dX12_next_1 rfl (lv_at hl 0 rfl) ?_
      refine xgX12_41 hx hb hts hown hK hW 0 hcX12_next_X12 (hI 0 (by decide)) lR_0 (hts _ hwX12_next_2) dX12_next_2 ?_
      refine x_calli (va_runV (As := [.int (gI σ 0 41)]) (rest := []) ⟨hx, hb, hml, hown, hts⟩ (J_X12_byteAt l hI h) (cwV 1 hts gX12_next_X12_byteAt rfl rfl rfl hdV_X12_byteAt ⟨Nat.le_of_ble_eq_true rfl, Nat.le_of_ble_eq_true rfl⟩) (x_preV (ci := 12) hK hZ hA hW (hI 0 (by decide)) lR_0 rfl) rfl rfl hl.1 rfl (lv_room (Nat.le_of_ble_eq_true rfl)) dX12_next_5 ⟨Nat.zero_le _, Nat.zero_le _⟩) hW hA (fun r30 σ29 H locs h hW => ?_)
      try dsimp only at h
      refine lv_bipush (v := 32) hx hb dX12_next_8 (by decide) ?_
      refine lv_icmp_eq (tgt := 26) hx hb dX12_next_10 (by decide) (fun c31 => ?_) (fun c31 => ?_)
      · have h := h.1 c31
        exact blk26  k0 hk0  _ _ _ _ hW (lv_sub hl [0] rfl) h
      · have h := h.2 c31
        refine lv_aload_n hx hb dX12_next_13 rfl (lv_at hl 0 rfl) ?_
        refine lv_aload_n hx hb dX12_next_14 rfl (lv_at hl 0 rfl) ?_
        refine xgX12_41 hx hb hts hown hK hW 0 hcX12_next_X12 (hI 0 (by decide)) lR_0 (hts _ hwX12_next_2) dX12_next_15 ?_
        refine x_calli (va_runV (As := [.int (gI σ29 0 41)]) (rest := []) ⟨hx, hb, hml, hown, hts⟩ (J_X12_byteAt l hI h) (cwV 1 hts gX12_next_X12_byteAt rfl rfl rfl hdV_X12_byteAt ⟨Nat.le_of_ble_eq_true rfl, Nat.le_of_ble_eq_true rfl⟩) (x_preV (ci := 12) hK hZ hA hW (hI 0 (by decide)) lR_0 rfl) rfl rfl hl.1 rfl (lv_room (Nat.le_of_ble_eq_true rfl)) dX12_next_18 ⟨Nat.zero_le _, Nat.zero_le _⟩) hW hA (fun r33 σ32 H locs h hW => ?_)
        try dsimp only at h
        refine lv_bipush (v := 10) hx hb dX12_next_21 (by decide) ?_
        refine lv_icmp_ne (tgt := 39) hx hb dX12_next_23 (by decide) (fun c34 => ?_) (fun c34 => ?_)
        · have h := h.1 c34
          refine lv_aload_n hx hb dX12_next_39 rfl (lv_at hl 0 rfl) ?_
          refine lv_aload_n hx hb dX12_next_40 rfl (lv_at hl 0 rfl) ?_
          refine xgX12_41 hx hb hts hown hK hW 0 hcX12_next_X12 (hI 0 (by decide)) lR_0 (hts _ hwX12_next_2) dX12_next_41 ?_
          refine xpX12_39 hx hb hts hown hK hW 0 hcX12_next_X12 (hI 0 (by decide)) lR_0 (hts _ hwX12_next_11) dX12_next_44 (fun σ35 H locs hσ35 hW => ?_)
          have h := h σ35 hσ35
          refine lv_aload_n hx hb dX12_next_47 rfl (lv_at hl 0 rfl) ?_
          refine lv_aload_n hx hb dX12_next_48 rfl (lv_at hl 0 rfl) ?_
          refine xgX12_41 hx hb hts hown hK hW 0 hcX12_next_X12 (hI 0 (by decide)) lR_0 (hts _ hwX12_next_2) dX12_next_49 ?_
          refine x_calli (va_runV (As := [.int (gI σ35 0 41)]) (rest := []) ⟨hx, hb, hml, hown, hts⟩ (J_X12_byteAt l hI h) (cwV 1 hts gX12_next_X12_byteAt rfl rfl rfl hdV_X12_byteAt ⟨Nat.le_of_ble_eq_true rfl, Nat.le_of_ble_eq_true rfl⟩) (x_preV (ci := 12) hK hZ hA hW (hI 0 (by decide)) lR_0 rfl) rfl rfl hl.1 rfl (lv_room (Nat.le_of_ble_eq_true rfl)) dX12_next_52 ⟨Nat.zero_le _, Nat.zero_le _⟩) hW hA (fun r37 σ36 H locs h hW => ?_)
          try dsimp only at h
          refine lv_istore_n (lv' := [(1, .int r37), (0, .ref (ad 0))]) hx hb dX12_next_55 rfl hl (by decide) rfl (fun ls hl => ?_)
          refine lv_aload_n hx hb dX12_next_56 rfl (lv_at hl 1 rfl) ?_
          refine lv_iconst (v := 4) hx hb dX12_next_57 (by decide) ?_
          refine xpX12_38 hx hb hts hown hK hW 0 hcX12_next_X12 (hI 0 (by decide)) lR_0 (hts _ hwX12_next_0) dX12_next_58 (fun σ38 H locs hσ38 hW => ?_)
          have h := h σ38 hσ38
          refine lv_iload_n hx hb dX12_next_61 rfl (lv_at hl 0 rfl) ?_
          refine lv_if_ge (tgt := 81) hx hb dX12_next_62 (by decide) (fun c39 => ?_) (fun c39 => ?_)
          · have h := h.1 c39
            refine lv_iload_n hx hb dX12_next_81 rfl (lv_at hl 0 rfl) ?_
            refine lv_i2l hx hb dX12_next_82 rfl ?_
            refine lv_ldc2 hx hb hown (hts _ hwX12_next_6) dX12_next_83 ?_
            refine lv_ldc2 hx hb hown (hts _ hwX12_next_7) dX12_next_86 ?_
            refine x_calli (va_runS (As := [.long (r37.toInt64), .long (97 : Int64), .long (122 : Int64)]) (rest := []) ⟨hx, hb, hml, hown, hts⟩ (J_X12_in l hI h) (va_cwS 3 hts gX12_next_X12_in rfl rfl rfl hdS_X12_in ⟨Nat.le_of_ble_eq_true rfl, Nat.le_of_ble_eq_true rfl⟩) (x_preS hK hZ hA hW) rfl rfl hl.1 rfl (lv_room (Nat.le_of_ble_eq_true rfl)) dX12_next_89 ⟨Nat.zero_le _, Nat.zero_le _⟩) hW hA (fun r41 σ40 H locs h hW => ?_)
            try dsimp only at h
            refine lv_if_eq (tgt := 185) hx hb dX12_next_92 (by decide) (fun c42 => ?_) (fun c42 => ?_)
            · have h := h.1 c42
              refine lv_iload_n hx hb dX12_next_185 rfl (lv_at hl 0 rfl) ?_
              refine lv_i2l hx hb dX12_next_186 rfl ?_
              refine lv_ldc2 hx hb hown (hts _ hwX12_next_3) dX12_next_187 ?_
              refine lv_ldc2 hx hb hown (hts _ hwX12_next_4) dX12_next_190 ?_
              refine x_calli (va_runS (As := [.long (r37.toInt64), .long (48 : Int64), .long (57 : Int64)]) (rest := []) ⟨hx, hb, hml, hown, hts⟩ (J_X12_in l hI h) (va_cwS 3 hts gX12_next_X12_in rfl rfl rfl hdS_X12_in ⟨Nat.le_of_ble_eq_true rfl, Nat.le_of_ble_eq_true rfl⟩) (x_preS hK hZ hA hW) rfl rfl hl.1 rfl (lv_room (Nat.le_of_ble_eq_true rfl)) dX12_next_193 ⟨Nat.zero_le _, Nat.zero_le _⟩) hW hA (fun r44 σ43 H locs h hW => ?_)
              try dsimp only at h
              refine lv_if_eq (tgt := 303) hx hb dX12_next_196 (by decide) (fun c45 => ?_) (fun c45 => ?_)
              · have h := h.1 c45
                refine lv_iload_n hx hb dX12_next_303 rfl (lv_at hl 0 rfl) ?_
                refine lv_bipush (v := 40) hx hb dX12_next_304 (by decide) ?_
                refine lv_icmp_eq (tgt := 351) hx hb dX12_next_306 (by decide) (fun c46 => ?_) (fun c46 => ?_)
                · have h := h.1 c46
                  exact blk351   r37 _ _ _ _ hW (lv_sub hl [1, 0] rfl) h
                · have h := h.2 c46
                  refine lv_iload_n hx hb dX12_next_309 rfl (lv_at hl 0 rfl) ?_
                  refine lv_bipush (v := 41) hx hb dX12_next_310 (by decide) ?_
                  refine lv_icmp_eq (tgt := 351) hx hb dX12_next_312 (by decide) (fun c47 => ?_) (fun c47 => ?_)
                  · have h := h.1 c47
                    exact blk351   r37 _ _ _ _ hW (lv_sub hl [1, 0] rfl) h
                  · have h := h.2 c47
                    refine lv_iload_n hx hb dX12_next_315 rfl (lv_at hl 0 rfl) ?_
                    refine lv_bipush (v := 59) hx hb dX12_next_316 (by decide) ?_
                    refine lv_icmp_eq (tgt := 351) hx hb dX12_next_318 (by decide) (fun c48 => ?_) (fun c48 => ?_)
                    · have h := h.1 c48
                      exact blk351   r37 _ _ _ _ hW (lv_sub hl [1, 0] rfl) h
                    · have h := h.2 c48
                      refine lv_iload_n hx hb dX12_next_321 rfl (lv_at hl 0 rfl) ?_
                      refine lv_bipush (v := 43) hx hb dX12_next_322 (by decide) ?_
                      refine lv_icmp_eq (tgt := 351) hx hb dX12_next_324 (by decide) (fun c49 => ?_) (fun c49 => ?_)
                      · have h := h.1 c49
                        exact blk351   r37 _ _ _ _ hW (lv_sub hl [1, 0] rfl) h
                      · have h := h.2 c49
                        refine lv_iload_n hx hb dX12_next_327 rfl (lv_at hl 0 rfl) ?_
                        refine lv_bipush (v := 45) hx hb dX12_next_328 (by decide) ?_
                        refine lv_icmp_eq (tgt := 351) hx hb dX12_next_330 (by decide) (fun c50 => ?_) (fun c50 => ?_)
                        · have h := h.1 c50
                          exact blk351   r37 _ _ _ _ hW (lv_sub hl [1, 0] rfl) h
                        · have h := h.2 c50
                          refine lv_iload_n hx hb dX12_next_333 rfl (lv_at hl 0 rfl) ?_
                          refine lv_bipush (v := 42) hx hb dX12_next_334 (by decide) ?_
                          refine lv_icmp_eq (tgt := 351) hx hb dX12_next_336 (by decide) (fun c51 => ?_) (fun c51 => ?_)
                          · have h := h.1 c51
                            exact blk351   r37 _ _ _ _ hW (lv_sub hl [1, 0] rfl) h
                          · have h := h.2 c51
                            refine lv_iload_n hx hb dX12_next_339 rfl (lv_at hl 0 rfl) ?_
                            refine lv_bipush (v := 60) hx hb dX12_next_340 (by decide) ?_
                            refine lv_icmp_eq (tgt := 351) hx hb dX12_next_342 (by decide) (fun c52 => ?_) (fun c52 => ?_)
                            · have h := h.1 c52
                              exact blk351   r37 _ _ _ _ hW (lv_sub hl [1, 0] rfl) h
                            · have h := h.2 c52
                              refine lv_iload_n hx hb dX12_next_345 rfl (lv_at hl 0 rfl) ?_
                              refine lv_bipush (v := 61) hx hb dX12_next_346 (by decide) ?_
                              refine lv_icmp_ne (tgt := 372) hx hb dX12_next_348 (by decide) (fun c53 => ?_) (fun c53 => ?_)
                              · have h := h.1 c53
                                exact blk372    _ _ _ _ hW (lv_sub hl [] rfl) h
                              · have h := h.2 c53
                                exact blk351   r37 _ _ _ _ hW (lv_sub hl [1, 0] rfl) h
              · have h := h.2 c45
                refine lv_aload_n hx hb dX12_next_199 rfl (lv_at hl 1 rfl) ?_
                refine lv_iconst (v := 2) hx hb dX12_next_200 (by decide) ?_
                refine xpX12_38 hx hb hts hown hK hW 0 hcX12_next_X12 (hI 0 (by decide)) lR_0 (hts _ hwX12_next_0) dX12_next_201 (fun σ54 H locs hσ54 hW => ?_)
                have h := h σ54 hσ54
                refine lv_aload_n hx hb dX12_next_204 rfl (lv_at hl 1 rfl) ?_
                refine lv_lconst (v := 0) hx hb dX12_next_205 (by decide) ?_
                refine xpX12_40 hx hb hts hown hK hW 0 hcX12_next_X12 (hI 0 (by decide)) lR_0 (hts _ hwX12_next_1) dX12_next_206 (fun σ55 H locs hσ55 hW => ?_)
                have h := h σ55 hσ55
                refine lv_iconst (v := 0) hx hb dX12_next_209 (by decide) ?_
                refine lv_istore_n (lv' := [(2, .int (0 : Int32)), (1, .int r37), (0, .ref (ad 0))]) hx hb dX12_next_210 rfl hl (by decide) rfl (fun ls hl => ?_)
                obtain ⟨n, h⟩ := h
                exact blk211    n (0 : Int32) _ _ _ _ hW (lv_sub hl [2, 0] rfl) h
            · have h := h.2 c42
              refine lv_aload_n hx hb dX12_next_95 rfl (lv_at hl 1 rfl) ?_
              refine lv_iconst (v := 1) hx hb dX12_next_96 (by decide) ?_
              refine xpX12_38 hx hb hts hown hK hW 0 hcX12_next_X12 (hI 0 (by decide)) lR_0 (hts _ hwX12_next_0) dX12_next_97 (fun σ57 H locs hσ57 hW => ?_)
              have h := h σ57 hσ57
              refine lv_aload_n hx hb dX12_next_100 rfl (lv_at hl 1 rfl) ?_
              refine lv_lconst (v := 0) hx hb dX12_next_101 (by decide) ?_
              refine xpX12_40 hx hb hts hown hK hW 0 hcX12_next_X12 (hI 0 (by decide)) lR_0 (hts _ hwX12_next_1) dX12_next_102 (fun σ58 H locs hσ58 hW => ?_)
              have h := h σ58 hσ58
              refine lv_iconst (v := 0) hx hb dX12_next_105 (by decide) ?_
              refine lv_istore_n (lv' := [(2, .int (0 : Int32)), (1, .int r37), (0, .ref (ad 0))]) hx hb dX12_next_106 rfl hl (by decide) rfl (fun ls hl => ?_)
              obtain ⟨n, h⟩ := h
              exact blk107    n (0 : Int32) _ _ _ _ hW (lv_sub hl [2, 0] rfl) h
          · have h := h.2 c39
            refine lv_aload_n hx hb dX12_next_65 rfl (lv_at hl 1 rfl) ?_
            refine lv_iconst (v := 0) hx hb dX12_next_66 (by decide) ?_
            refine xpX12_38 hx hb hts hown hK hW 0 hcX12_next_X12 (hI 0 (by decide)) lR_0 (hts _ hwX12_next_0) dX12_next_67 (fun σ60 H locs hσ60 hW => ?_)
            have h := h σ60 hσ60
            refine lv_aload_n hx hb dX12_next_70 rfl (lv_at hl 1 rfl) ?_
            refine lv_aload_n hx hb dX12_next_71 rfl (lv_at hl 1 rfl) ?_
            refine xgX12_37 hx hb hts hown hK hW 0 hcX12_next_X12 (hI 0 (by decide)) lR_0 (hts _ hwX12_next_12) dX12_next_72 ?_
            refine xpX12_39 hx hb hts hown hK hW 0 hcX12_next_X12 (hI 0 (by decide)) lR_0 (hts _ hwX12_next_11) dX12_next_75 (fun σ61 H locs hσ61 hW => ?_)
            have h := h σ61 hσ61
            refine lv_goto (tgt := 372) hx hb dX12_next_78 (by decide) ?_
            exact blk372    _ _ _ _ hW (lv_sub hl [] rfl) h
        · have h := h.2 c34
          exact blk26  k0 hk0  _ _ _ _ hW (lv_sub hl [0] rfl) h
  have main : ∀ (H : Heap) (locs : List Loc) (ls : Array Slot), xW D KA layR stR ad ids (xA ad ids s.heap.size) s.heap σ H locs → lv_has ls 3 [(0, .ref (ad 0))] → W p l e rmX12_next s m args below meth c H locs 0 0 Q (F0 m 0 ls []) := by
    intro H locs ls hW hl
    unfold wX12_next at h
    obtain ⟨n, h⟩ := h
    exact blk0    n  _ _ _ _ hW (lv_sub hl [0] rfl) h
  exact main _ _ _ hW hl
theorem hwX12_added_0 : (.fieldLink RX12 300 "FortyBeltsModel" "tokenWorth" "J" : Cond) ∈ wsX12_added := (List.mem_cons_of_mem _ (List.mem_append_left _ (List.mem_append_left _ (List.mem_of_getElem? (i := 0) rfl))))
theorem hwX12_added_1 : (.constantLong RX12 385 (43) : Cond) ∈ wsX12_added := (List.mem_cons_of_mem _ (List.mem_append_left _ (List.mem_append_left _ (List.mem_of_getElem? (i := 1) rfl))))
theorem hcX12_added_X12 : ∀ w ∈ wsX120, w ∈ wsX12_added := fun _ h => (List.mem_cons_of_mem _ (List.mem_append_right _ h))
set_option maxHeartbeats 4000000 in
set_option maxRecDepth 100000 in
theorem JO_X12_added {D : va_G} {KA : Nat → ClassId} {zs : ZS} {ad : Nat → Nat} {ids : List Nat} {sz : Nat} (l : Launch) (hI : ∀ c, c < 35 → c ∈ ids) (d : Nat) {rec : Nat → St → (Int32 → St → Prop) → Prop} (hrec0 : ∀ {σ : St} {post : Int32 → St → Prop} {sz : Nat}, rec 0  σ post → Met l yX12_either wsX12_either (rmgR d) (va_Pc [.ref (ad 0)] (xIn D KA zs layR stR ad ids sz σ)) (va_Qi post (xOut D KA layR stR ad ids) (xA ad ids sz)) 0 0 (xA ad ids sz)) (hrec1 : ∀ {σ : St} {post : Int32 → St → Prop} {sz : Nat}, rec 1  σ post → Met l yX12_both wsX12_both (rmgR d) (va_Pc [.ref (ad 0)] (xIn D KA zs layR stR ad ids sz σ)) (va_Qi post (xOut D KA layR stR ad ids) (xA ad ids sz)) 0 0 (xA ad ids sz)) (hrec2 : ∀ {σ : St} {post : Int32 → St → Prop} {sz : Nat}, rec 2  σ post → Met l yX12_not wsX12_not (rmgR d) (va_Pc [.ref (ad 0)] (xIn D KA zs layR stR ad ids sz σ)) (va_Qi post (xOut D KA layR stR ad ids) (xA ad ids sz)) 0 0 (xA ad ids sz)) (hrec3 : ∀ {σ : St} {post : Int32 → St → Prop} {sz : Nat}, rec 3  σ post → Met l yX12_added wsX12_added (rmgR d) (va_Pc [.ref (ad 0)] (xIn D KA zs layR stR ad ids sz σ)) (va_Qi post (xOut D KA layR stR ad ids) (xA ad ids sz)) 0 0 (xA ad ids sz)) (hrec4 : ∀ {σ : St} {post : Int32 → St → Prop} {sz : Nat}, rec 4  σ post → Met l yX12_term wsX12_term (rmgR d) (va_Pc [.ref (ad 0)] (xIn D KA zs layR stR ad ids sz σ)) (va_Qi post (xOut D KA layR stR ad ids) (xA ad ids sz)) 0 0 (xA ad ids sz)) (hrec5 : ∀ {σ : St} {post : Int32 → St → Prop} {sz : Nat}, rec 5  σ post → Met l yX12_one wsX12_one (rmgR d) (va_Pc [.ref (ad 0)] (xIn D KA zs layR stR ad ids sz σ)) (va_Qi post (xOut D KA layR stR ad ids) (xA ad ids sz)) 0 0 (xA ad ids sz))   {σ : St} {post : Int32 → St → Prop} (h : wX12_added rec  σ post) : Met l yX12_added wsX12_added (rmgR (d + 1)) (va_Pc [.ref (ad 0)] (xIn D KA zs layR stR ad ids sz σ)) (va_Qi post (xOut D KA layR stR ad ids) (xA ad ids sz)) 0 0 (xA ad ids sz) := by
  refine Met.ofW (cc := cX12_added) (maxL := 4) (ret := (some .int)) (by decide) rfl ?_
  intro p e s m args below meth c s₁ B hml hv
  obtain ⟨hav, hsz, hK, hZ, hP, hD⟩ := hv
  have hx := B.exec
  have hb := B.bytes
  have hr := B.returns
  have hts := atoms_spec (ws := wsX12_added) B.pre
  have hown : s.vm.findClass RX12 = some m.cls := findClass_of_methodNamed B.named
  have hlocks := B.notSynchronized
  subst hsz
  have hA : ∀ q : Nat, s.heap.size ≤ q → xA ad ids s.heap.size q := fun q h => Or.inr h
  have hW : xW D KA layR stR ad ids (xA ad ids s.heap.size) s.heap σ s.heap [] := ⟨hP, xA_D (D := D) hD, va_S.rf⟩
  have kr : ∀ (v : Int32) (σ : St) (H : Heap) (locs : List Loc) (ls : Array Slot) (pc : Nat), xW D KA layR stR ad ids (xA ad ids s.heap.size) s.heap σ H locs → post v σ → decode cX12_added pc = .ok (.ireturn, 1) → W p l e (rmgR (d + 1)) s m args below meth c H locs 0 0 (MQ below (va_Qi post (xOut D KA layR stR ad ids) (xA ad ids s.heap.size)) args s 0 0 (xA ad ids s.heap.size)) (F0 m pc ls [.int v]) := fun v σ H locs ls pc hW h hd => x_iret hx hb hr hlocks hW h hd
  have hl := lv_entry ([.ref (ad 0)]) (n := 4) (Nat.le_of_ble_eq_true rfl)
  rw [show entryFrame m args 4 = entryFrame m ([.ref (ad 0)] : List Value).toArray 4 from by rw [hav]]
  rw [lg_entry_eq]
  generalize (lg_sl ([.ref (ad 0)]) ++ List.replicate (4 - (lg_sl ([.ref (ad 0)])).length) Slot.unset).toArray = ls at hl ⊢
  have hl : lv_has ls 4 [(0, .ref (ad 0))] := hl
  show W p l e (rmgR (d + 1)) s m args below meth c s.heap [] 0 0 _ _
  generalize MQ below (va_Qi post (xOut D KA layR stR ad ids) (xA ad ids s.heap.size)) args s 0 0 (xA ad ids s.heap.size) = Q at kr ⊢
  have blk62 : ∀ (k5 : Int32 → St → Prop) (hk5 : ∀ (x1 : Int32) (σ : St) (H : Heap) (locs : List Loc) (ls : Array Slot), xW D KA layR stR ad ids (xA ad ids s.heap.size) s.heap σ H locs → lv_has ls 4 [(0, .ref (ad 0)), (1, .int x1)] → k5 x1 σ → W p l e (rmgR (d + 1)) s m args below meth c H locs 0 0 Q (F0 m 5 ls [])) (s0 : Int32) (σ : St) (H : Heap) (locs : List Loc) (ls : Array Slot), xW D KA layR stR ad ids (xA ad ids s.heap.size) s.heap σ H locs → lv_has ls 4 [(0, .ref (ad 0))] → wX12_added_62 rec k5 post s0 σ → W p l e (rmgR (d + 1)) s m args below meth c H locs 0 0 Q (F0 m 62 ls [.int s0]) := by
    intro  k5 hk5 s0 σ H locs ls hW hl h
    unfold wX12_added_62 at h
    refine lv_istore_n (lv' := [(1, .int s0), (0, .ref (ad 0))]) hx hb dX12_added_62 rfl hl (by decide) rfl (fun ls hl => ?_)
    refine lv_goto (tgt := 5) hx hb dX12_added_63 (by decide) ?_
    exact hk5 s0 _ _ _ _ hW (lv_sub hl [1, 0] rfl) h
  have blk39 : ∀ (k5 : Int32 → St → Prop) (hk5 : ∀ (x1 : Int32) (σ : St) (H : Heap) (locs : List Loc) (ls : Array Slot), xW D KA layR stR ad ids (xA ad ids s.heap.size) s.heap σ H locs → lv_has ls 4 [(0, .ref (ad 0)), (1, .int x1)] → k5 x1 σ → W p l e (rmgR (d + 1)) s m args below meth c H locs 0 0 Q (F0 m 5 ls [])) (x1 : Int32) (s0 : Int32) (σ : St) (H : Heap) (locs : List Loc) (ls : Array Slot), xW D KA layR stR ad ids (xA ad ids s.heap.size) s.heap σ H locs → lv_has ls 4 [(0, .ref (ad 0)), (1, .int x1)] → wX12_added_39 rec k5 post x1 s0 σ → W p l e (rmgR (d + 1)) s m args below meth c H locs 0 0 Q (F0 m 39 ls [.int s0]) := by
    intro  k5 hk5 x1 s0 σ H locs ls hW hl h
    unfold wX12_added_39 at h
    refine lv_istore_n (lv' := [(2, .int s0), (0, .ref (ad 0)), (1, .int x1)]) hx hb dX12_added_39 rfl hl (by decide) rfl (fun ls hl => ?_)
    refine lv_aload_n hx hb dX12_added_40 rfl (lv_at hl 1 rfl) ?_
    refine x_callv (va_runV (As := []) (rest := []) ⟨hx, hb, hml, hown, hts⟩ (J_X12_next l hI h) (cwV 0 hts gX12_added_X12_next rfl rfl rfl hdV_X12_next ⟨rmgR_of d (Nat.le_of_ble_eq_true rfl), rmgR_ol d (Nat.le_of_ble_eq_true rfl)⟩) (x_preV (ci := 12) hK hZ hA hW (hI 0 (by decide)) lR_0 rfl) rfl rfl hl.1 rfl (lv_room (Nat.le_of_ble_eq_true rfl)) dX12_added_41 ⟨Nat.zero_le _, Nat.zero_le _⟩) hW hA (fun σ1 H locs h hW => ?_)
    try dsimp only at h
    refine lv_aload_n hx hb dX12_added_44 rfl (lv_at hl 1 rfl) ?_
    refine x_calli (va_runV (As := []) (rest := []) ⟨hx, hb, hml, hown, hts⟩ (hrec4 h) (cwV 0 hts gX12_added_X12_term rfl rfl rfl hdV_X12_term ⟨rmgR_f d, rmgR_l d (Nat.le_of_ble_eq_true rfl)⟩) (x_preV (ci := 12) hK hZ hA hW (hI 0 (by decide)) lR_0 rfl) rfl rfl hl.1 rfl (lv_room (Nat.le_of_ble_eq_true rfl)) dX12_added_45 ⟨Nat.zero_le _, Nat.zero_le _⟩) hW hA (fun r3 σ2 H locs h hW => ?_)
    try dsimp only at h
    refine lv_istore_n (lv' := [(3, .int r3), (2, .int s0), (0, .ref (ad 0)), (1, .int x1)]) hx hb dX12_added_48 rfl hl (by decide) rfl (fun ls hl => ?_)
    refine lv_iload_n hx hb dX12_added_49 rfl (lv_at hl 1 rfl) ?_
    refine lv_if_eq (tgt := 59) hx hb dX12_added_50 (by decide) (fun c4 => ?_) (fun c4 => ?_)
    · have h := h.1 c4
      refine lv_iload_n hx hb dX12_added_59 rfl (lv_at hl 3 rfl) ?_
      refine lv_iload_n hx hb dX12_added_60 rfl (lv_at hl 0 rfl) ?_
      refine lv_isub hx hb dX12_added_61 ?_
      exact blk62  k5 hk5 (x1 - r3) _ _ _ _ hW (lv_sub hl [2] rfl) h
    · have h := h.2 c4
      refine lv_iload_n hx hb dX12_added_53 rfl (lv_at hl 3 rfl) ?_
      refine lv_iload_n hx hb dX12_added_54 rfl (lv_at hl 0 rfl) ?_
      refine lv_iadd hx hb dX12_added_55 ?_
      refine lv_goto (tgt := 62) hx hb dX12_added_56 (by decide) ?_
      exact blk62  k5 hk5 (x1 + r3) _ _ _ _ hW (lv_sub hl [2] rfl) h
  have blk23 : ∀ (k5 : Int32 → St → Prop) (hk5 : ∀ (x1 : Int32) (σ : St) (H : Heap) (locs : List Loc) (ls : Array Slot), xW D KA layR stR ad ids (xA ad ids s.heap.size) s.heap σ H locs → lv_has ls 4 [(0, .ref (ad 0)), (1, .int x1)] → k5 x1 σ → W p l e (rmgR (d + 1)) s m args below meth c H locs 0 0 Q (F0 m 5 ls [])) (x1 : Int32) (σ : St) (H : Heap) (locs : List Loc) (ls : Array Slot), xW D KA layR stR ad ids (xA ad ids s.heap.size) s.heap σ H locs → lv_has ls 4 [(0, .ref (ad 0)), (1, .int x1)] → wX12_added_23 rec k5 post x1 σ → W p l e (rmgR (d + 1)) s m args below meth c H locs 0 0 Q (F0 m 23 ls []) := by
    intro  k5 hk5 x1 σ H locs ls hW hl h
    unfold wX12_added_23 at h
    refine lv_aload_n hx hb dX12_added_23 rfl (lv_at hl 0 rfl) ?_
    refine xgX12_40 hx hb hts hown hK hW 0 hcX12_added_X12 (hI 0 (by decide)) lR_0 (hts _ hwX12_added_0) dX12_added_24 ?_
    refine lv_ldc2 hx hb hown (hts _ hwX12_added_1) dX12_added_27 ?_
    refine W.lcmp hx hb dX12_added_30 ?_
    refine lv_if_ne (tgt := 38) hx hb dX12_added_31 (by decide) (fun c5 => ?_) (fun c5 => ?_)
    · have h := h.1 c5
      refine lv_iconst (v := 0) hx hb dX12_added_38 (by decide) ?_
      exact blk39  k5 hk5 x1 (0 : Int32) _ _ _ _ hW (lv_sub hl [0, 1] rfl) h
    · have h := h.2 c5
      refine lv_iconst (v := 1) hx hb dX12_added_34 (by decide) ?_
      refine lv_goto (tgt := 39) hx hb dX12_added_35 (by decide) ?_
      exact blk39  k5 hk5 x1 (1 : Int32) _ _ _ _ hW (lv_sub hl [0, 1] rfl) h
  have blk5 : ∀ (n : Nat) (x1 : Int32) (σ : St) (H : Heap) (locs : List Loc) (ls : Array Slot), xW D KA layR stR ad ids (xA ad ids s.heap.size) s.heap σ H locs → lv_has ls 4 [(0, .ref (ad 0)), (1, .int x1)] → wX12_added_5 rec post  n x1 σ → W p l e (rmgR (d + 1)) s m args below meth c H locs 0 0 Q (F0 m 5 ls []) := by
    intro    n
    induction n with
    | zero => intro x1 σ H locs ls hW hl h; exact (h : False).elim
    | succ n ih =>
      intro x1 σ H locs ls hW hl h
      have hk5 : ∀ (x1 : Int32) (σ : St) (H : Heap) (locs : List Loc) (ls : Array Slot), xW D KA layR stR ad ids (xA ad ids s.heap.size) s.heap σ H locs → lv_has ls 4 [(0, .ref (ad 0)), (1, .int x1)] → (wX12_added_5 rec post  n) x1 σ → W p l e (rmgR (d + 1)) s m args below meth c H locs 0 0 Q (F0 m 5 ls []) := fun x1 σ H locs ls hW hl h => ih x1 σ H locs ls hW hl h
      rw [wX12_added_5_s] at h
      try dsimp only at h
      generalize wX12_added_5 rec post  n = k5 at h hk5
      refine lv_aload_n hx hb dX12_added_5 rfl (lv_at hl 0 rfl) ?_
      refine lv_bipush (v := 43) hx hb dX12_added_6 (by decide) ?_
      refine x_calli (va_runV (As := [.int (43 : Int32)]) (rest := []) ⟨hx, hb, hml, hown, hts⟩ (J_X12_isSign l hI h) (cwV 1 hts gX12_added_X12_isSign rfl rfl rfl hdV_X12_isSign ⟨rmgR_of d (Nat.le_of_ble_eq_true rfl), rmgR_ol d (Nat.le_of_ble_eq_true rfl)⟩) (x_preV (ci := 12) hK hZ hA hW (hI 0 (by decide)) lR_0 rfl) rfl rfl hl.1 rfl (lv_room (Nat.le_of_ble_eq_true rfl)) dX12_added_8 ⟨Nat.zero_le _, Nat.zero_le _⟩) hW hA (fun r7 σ6 H locs h hW => ?_)
      try dsimp only at h
      refine lv_if_ne (tgt := 23) hx hb dX12_added_11 (by decide) (fun c8 => ?_) (fun c8 => ?_)
      · have h := h.1 c8
        exact blk23  k5 hk5 x1 _ _ _ _ hW (lv_sub hl [0, 1] rfl) h
      · have h := h.2 c8
        refine lv_aload_n hx hb dX12_added_14 rfl (lv_at hl 0 rfl) ?_
        refine lv_bipush (v := 45) hx hb dX12_added_15 (by decide) ?_
        refine x_calli (va_runV (As := [.int (45 : Int32)]) (rest := []) ⟨hx, hb, hml, hown, hts⟩ (J_X12_isSign l hI h) (cwV 1 hts gX12_added_X12_isSign rfl rfl rfl hdV_X12_isSign ⟨rmgR_of d (Nat.le_of_ble_eq_true rfl), rmgR_ol d (Nat.le_of_ble_eq_true rfl)⟩) (x_preV (ci := 12) hK hZ hA hW (hI 0 (by decide)) lR_0 rfl) rfl rfl hl.1 rfl (lv_room (Nat.le_of_ble_eq_true rfl)) dX12_added_17 ⟨Nat.zero_le _, Nat.zero_le _⟩) hW hA (fun r10 σ9 H locs h hW => ?_)
        try dsimp only at h
        refine lv_if_eq (tgt := 66) hx hb dX12_added_20 (by decide) (fun c11 => ?_) (fun c11 => ?_)
        · have h := h.1 c11
          refine lv_iload_n hx hb dX12_added_66 rfl (lv_at hl 1 rfl) ?_
          exact kr _ _ _ _ _ _ hW h dX12_added_67
        · have h := h.2 c11
          exact blk23  k5 hk5 x1 _ _ _ _ hW (lv_sub hl [0, 1] rfl) h
  have main : ∀ (H : Heap) (locs : List Loc) (ls : Array Slot), xW D KA layR stR ad ids (xA ad ids s.heap.size) s.heap σ H locs → lv_has ls 4 [(0, .ref (ad 0))] → W p l e (rmgR (d + 1)) s m args below meth c H locs 0 0 Q (F0 m 0 ls []) := by
    intro H locs ls hW hl
    unfold wX12_added at h
    refine lv_aload_n hx hb dX12_added_0 rfl (lv_at hl 0 rfl) ?_
    refine x_calli (va_runV (As := []) (rest := []) ⟨hx, hb, hml, hown, hts⟩ (hrec4 h) (cwV 0 hts gX12_added_X12_term rfl rfl rfl hdV_X12_term ⟨rmgR_f d, rmgR_l d (Nat.le_of_ble_eq_true rfl)⟩) (x_preV (ci := 12) hK hZ hA hW (hI 0 (by decide)) lR_0 rfl) rfl rfl hl.1 rfl (lv_room (Nat.le_of_ble_eq_true rfl)) dX12_added_1 ⟨Nat.zero_le _, Nat.zero_le _⟩) hW hA (fun r1002 σ1001 H locs h hW => ?_)
    try dsimp only at h
    refine lv_istore_n (lv' := [(1, .int r1002), (0, .ref (ad 0))]) hx hb dX12_added_4 rfl hl (by decide) rfl (fun ls hl => ?_)
    obtain ⟨n, h⟩ := h
    exact blk5    n r1002 _ _ _ _ hW (lv_sub hl [1, 0] rfl) h
  exact main _ _ _ hW hl
theorem hwX12_isWord_0 : (.fieldLink RX12 316 "FortyBeltsModel" "bad" "Z" : Cond) ∈ wsX12_isWord := (List.mem_cons_of_mem _ (List.mem_append_left _ (List.mem_of_getElem? (i := 0) rfl)))
theorem hwX12_isWord_1 : (.fieldLink RX12 293 "FortyBeltsModel" "token" "I" : Cond) ∈ wsX12_isWord := (List.mem_cons_of_mem _ (List.mem_append_left _ (List.mem_of_getElem? (i := 1) rfl)))
theorem hwX12_isWord_2 : (.fieldLink RX12 300 "FortyBeltsModel" "tokenWorth" "J" : Cond) ∈ wsX12_isWord := (List.mem_cons_of_mem _ (List.mem_append_left _ (List.mem_of_getElem? (i := 2) rfl)))
theorem hcX12_isWord_X12 : ∀ w ∈ wsX120, w ∈ wsX12_isWord := fun _ h => (List.mem_cons_of_mem _ (List.mem_append_right _ h))
set_option maxHeartbeats 4000000 in
set_option maxRecDepth 100000 in
theorem J_X12_isWord {D : va_G} {KA : Nat → ClassId} {zs : ZS} {ad : Nat → Nat} {ids : List Nat} {sz : Nat} (l : Launch) (hI : ∀ c, c < 35 → c ∈ ids) {a1 : Int64}  {σ : St} {post : Int32 → St → Prop} (h : wX12_isWord  a1 σ post) : Met l yX12_isWord wsX12_isWord rmX12_isWord (va_Pc [.ref (ad 0), .long a1] (xIn D KA zs layR stR ad ids sz σ)) (va_Qi post (xOut D KA layR stR ad ids) (xA ad ids sz)) 0 0 (xA ad ids sz) := by
  refine Met.ofW (cc := cX12_isWord) (maxL := 3) (ret := (some .boolean)) (by decide) rfl ?_
  intro p e s m args below meth c s₁ B hml hv
  obtain ⟨hav, hsz, hK, hZ, hP, hD⟩ := hv
  have hx := B.exec
  have hb := B.bytes
  have hr := B.returns
  have hts := atoms_spec (ws := wsX12_isWord) B.pre
  have hown : s.vm.findClass RX12 = some m.cls := findClass_of_methodNamed B.named
  have hlocks := B.notSynchronized
  subst hsz
  have hA : ∀ q : Nat, s.heap.size ≤ q → xA ad ids s.heap.size q := fun q h => Or.inr h
  have hW : xW D KA layR stR ad ids (xA ad ids s.heap.size) s.heap σ s.heap [] := ⟨hP, xA_D (D := D) hD, va_S.rf⟩
  have kr : ∀ (v : Int32) (σ : St) (H : Heap) (locs : List Loc) (ls : Array Slot) (pc : Nat), xW D KA layR stR ad ids (xA ad ids s.heap.size) s.heap σ H locs → isB v → post v σ → decode cX12_isWord pc = .ok (.ireturn, 1) → W p l e rmX12_isWord s m args below meth c H locs 0 0 (MQ below (va_Qi post (xOut D KA layR stR ad ids) (xA ad ids s.heap.size)) args s 0 0 (xA ad ids s.heap.size)) (F0 m pc ls [.int v]) := fun v σ H locs ls pc hW hz h hd => x_zret hx hb hr hlocks hW hz h hd
  have hl := lv_entry ([.ref (ad 0), .long a1]) (n := 3) (Nat.le_of_ble_eq_true rfl)
  rw [show entryFrame m args 3 = entryFrame m ([.ref (ad 0), .long a1] : List Value).toArray 3 from by rw [hav]]
  rw [lg_entry_eq]
  generalize (lg_sl ([.ref (ad 0), .long a1]) ++ List.replicate (3 - (lg_sl ([.ref (ad 0), .long a1])).length) Slot.unset).toArray = ls at hl ⊢
  have hl : lv_has ls 3 [(0, .ref (ad 0)), (1, .long a1)] := hl
  show W p l e rmX12_isWord s m args below meth c s.heap [] 0 0 _ _
  generalize MQ below (va_Qi post (xOut D KA layR stR ad ids) (xA ad ids s.heap.size)) args s 0 0 (xA ad ids s.heap.size) = Q at kr ⊢
  have blk29 : ∀ (s0 : Int32) (σ : St) (H : Heap) (locs : List Loc) (ls : Array Slot), xW D KA layR stR ad ids (xA ad ids s.heap.size) s.heap σ H locs → lv_has ls 3 [] → wX12_isWord_29 post s0 σ → W p l e rmX12_isWord s m args below meth c H locs 0 0 Q (F0 m 29 ls [.int s0]) := by
    intro   s0 σ H locs ls hW hl h
    unfold wX12_isWord_29 at h
    obtain ⟨hz1, h⟩ := h
    exact kr _ _ _ _ _ _ hW hz1 h dX12_isWord_29
  have blk28 : ∀ (σ : St) (H : Heap) (locs : List Loc) (ls : Array Slot), xW D KA layR stR ad ids (xA ad ids s.heap.size) s.heap σ H locs → lv_has ls 3 [] → wX12_isWord_28 post  σ → W p l e rmX12_isWord s m args below meth c H locs 0 0 Q (F0 m 28 ls []) := by
    intro    σ H locs ls hW hl h
    unfold wX12_isWord_28 at h
    refine lv_iconst (v := 0) hx hb dX12_isWord_28 (by decide) ?_
    exact blk29   (0 : Int32) _ _ _ _ hW (lv_sub hl [] rfl) h
  have main : ∀ (H : Heap) (locs : List Loc) (ls : Array Slot), xW D KA layR stR ad ids (xA ad ids s.heap.size) s.heap σ H locs → lv_has ls 3 [(0, .ref (ad 0)), (1, .long a1)] → W p l e rmX12_isWord s m args below meth c H locs 0 0 Q (F0 m 0 ls []) := by
    intro H locs ls hW hl
    unfold wX12_isWord at h
    refine lv_aload_n hx hb dX12_isWord_0 rfl (lv_at hl 0 rfl) ?_
    refine xgX12_43 hx hb hts hown hK hW 0 hcX12_isWord_X12 (hI 0 (by decide)) lR_0 (hts _ hwX12_isWord_0) dX12_isWord_1 ?_
    refine lv_if_ne (tgt := 28) hx hb dX12_isWord_4 (by decide) (fun c1001 => ?_) (fun c1001 => ?_)
    · have h := h.1 c1001
      exact blk28    _ _ _ _ hW (lv_sub hl [] rfl) h
    · have h := h.2 c1001
      refine lv_aload_n hx hb dX12_isWord_7 rfl (lv_at hl 0 rfl) ?_
      refine xgX12_38 hx hb hts hown hK hW 0 hcX12_isWord_X12 (hI 0 (by decide)) lR_0 (hts _ hwX12_isWord_1) dX12_isWord_8 ?_
      refine lv_iconst (v := 1) hx hb dX12_isWord_11 (by decide) ?_
      refine lv_icmp_ne (tgt := 28) hx hb dX12_isWord_12 (by decide) (fun c1002 => ?_) (fun c1002 => ?_)
      · have h := h.1 c1002
        exact blk28    _ _ _ _ hW (lv_sub hl [] rfl) h
      · have h := h.2 c1002
        refine lv_aload_n hx hb dX12_isWord_15 rfl (lv_at hl 0 rfl) ?_
        refine xgX12_40 hx hb hts hown hK hW 0 hcX12_isWord_X12 (hI 0 (by decide)) lR_0 (hts _ hwX12_isWord_2) dX12_isWord_16 ?_
        refine lv_lload_n hx hb dX12_isWord_19 rfl (lv_at hl 1 rfl) ?_
        refine W.lcmp hx hb dX12_isWord_20 ?_
        refine lv_if_ne (tgt := 28) hx hb dX12_isWord_21 (by decide) (fun c1003 => ?_) (fun c1003 => ?_)
        · have h := h.1 c1003
          exact blk28    _ _ _ _ hW (lv_sub hl [] rfl) h
        · have h := h.2 c1003
          refine lv_iconst (v := 1) hx hb dX12_isWord_24 (by decide) ?_
          refine lv_goto (tgt := 29) hx hb dX12_isWord_25 (by decide) ?_
          exact blk29   (1 : Int32) _ _ _ _ hW (lv_sub hl [] rfl) h
  exact main _ _ _ hW hl
theorem hwX12_both_0 : (.constantLong RX12 397 (1111) : Cond) ∈ wsX12_both := (List.mem_cons_of_mem _ (List.mem_append_left _ (List.mem_append_left _ (List.mem_of_getElem? (i := 0) rfl))))
set_option maxHeartbeats 4000000 in
set_option maxRecDepth 100000 in
theorem JO_X12_both {D : va_G} {KA : Nat → ClassId} {zs : ZS} {ad : Nat → Nat} {ids : List Nat} {sz : Nat} (l : Launch) (hI : ∀ c, c < 35 → c ∈ ids) (d : Nat) {rec : Nat → St → (Int32 → St → Prop) → Prop} (hrec0 : ∀ {σ : St} {post : Int32 → St → Prop} {sz : Nat}, rec 0  σ post → Met l yX12_either wsX12_either (rmgR d) (va_Pc [.ref (ad 0)] (xIn D KA zs layR stR ad ids sz σ)) (va_Qi post (xOut D KA layR stR ad ids) (xA ad ids sz)) 0 0 (xA ad ids sz)) (hrec1 : ∀ {σ : St} {post : Int32 → St → Prop} {sz : Nat}, rec 1  σ post → Met l yX12_both wsX12_both (rmgR d) (va_Pc [.ref (ad 0)] (xIn D KA zs layR stR ad ids sz σ)) (va_Qi post (xOut D KA layR stR ad ids) (xA ad ids sz)) 0 0 (xA ad ids sz)) (hrec2 : ∀ {σ : St} {post : Int32 → St → Prop} {sz : Nat}, rec 2  σ post → Met l yX12_not wsX12_not (rmgR d) (va_Pc [.ref (ad 0)] (xIn D KA zs layR stR ad ids sz σ)) (va_Qi post (xOut D KA layR stR ad ids) (xA ad ids sz)) 0 0 (xA ad ids sz)) (hrec3 : ∀ {σ : St} {post : Int32 → St → Prop} {sz : Nat}, rec 3  σ post → Met l yX12_added wsX12_added (rmgR d) (va_Pc [.ref (ad 0)] (xIn D KA zs layR stR ad ids sz σ)) (va_Qi post (xOut D KA layR stR ad ids) (xA ad ids sz)) 0 0 (xA ad ids sz)) (hrec4 : ∀ {σ : St} {post : Int32 → St → Prop} {sz : Nat}, rec 4  σ post → Met l yX12_term wsX12_term (rmgR d) (va_Pc [.ref (ad 0)] (xIn D KA zs layR stR ad ids sz σ)) (va_Qi post (xOut D KA layR stR ad ids) (xA ad ids sz)) 0 0 (xA ad ids sz)) (hrec5 : ∀ {σ : St} {post : Int32 → St → Prop} {sz : Nat}, rec 5  σ post → Met l yX12_one wsX12_one (rmgR d) (va_Pc [.ref (ad 0)] (xIn D KA zs layR stR ad ids sz σ)) (va_Qi post (xOut D KA layR stR ad ids) (xA ad ids sz)) 0 0 (xA ad ids sz))   {σ : St} {post : Int32 → St → Prop} (h : wX12_both rec  σ post) : Met l yX12_both wsX12_both (rmgR (d + 1)) (va_Pc [.ref (ad 0)] (xIn D KA zs layR stR ad ids sz σ)) (va_Qi post (xOut D KA layR stR ad ids) (xA ad ids sz)) 0 0 (xA ad ids sz) := by
  refine Met.ofW (cc := cX12_both) (maxL := 3) (ret := (some .int)) (by decide) rfl ?_
  intro p e s m args below meth c s₁ B hml hv
  obtain ⟨hav, hsz, hK, hZ, hP, hD⟩ := hv
  have hx := B.exec
  have hb := B.bytes
  have hr := B.returns
  have hts := atoms_spec (ws := wsX12_both) B.pre
  have hown : s.vm.findClass RX12 = some m.cls := findClass_of_methodNamed B.named
  have hlocks := B.notSynchronized
  subst hsz
  have hA : ∀ q : Nat, s.heap.size ≤ q → xA ad ids s.heap.size q := fun q h => Or.inr h
  have hW : xW D KA layR stR ad ids (xA ad ids s.heap.size) s.heap σ s.heap [] := ⟨hP, xA_D (D := D) hD, va_S.rf⟩
  have kr : ∀ (v : Int32) (σ : St) (H : Heap) (locs : List Loc) (ls : Array Slot) (pc : Nat), xW D KA layR stR ad ids (xA ad ids s.heap.size) s.heap σ H locs → post v σ → decode cX12_both pc = .ok (.ireturn, 1) → W p l e (rmgR (d + 1)) s m args below meth c H locs 0 0 (MQ below (va_Qi post (xOut D KA layR stR ad ids) (xA ad ids s.heap.size)) args s 0 0 (xA ad ids s.heap.size)) (F0 m pc ls [.int v]) := fun v σ H locs ls pc hW h hd => x_iret hx hb hr hlocks hW h hd
  have hl := lv_entry ([.ref (ad 0)]) (n := 3) (Nat.le_of_ble_eq_true rfl)
  rw [show entryFrame m args 3 = entryFrame m ([.ref (ad 0)] : List Value).toArray 3 from by rw [hav]]
  rw [lg_entry_eq]
  generalize (lg_sl ([.ref (ad 0)]) ++ List.replicate (3 - (lg_sl ([.ref (ad 0)])).length) Slot.unset).toArray = ls at hl ⊢
  have hl : lv_has ls 3 [(0, .ref (ad 0))] := hl
  show W p l e (rmgR (d + 1)) s m args below meth c s.heap [] 0 0 _ _
  generalize MQ below (va_Qi post (xOut D KA layR stR ad ids) (xA ad ids s.heap.size)) args s 0 0 (xA ad ids s.heap.size) = Q at kr ⊢
  have blk37 : ∀ (k5 : Int32 → St → Prop) (hk5 : ∀ (x1 : Int32) (σ : St) (H : Heap) (locs : List Loc) (ls : Array Slot), xW D KA layR stR ad ids (xA ad ids s.heap.size) s.heap σ H locs → lv_has ls 3 [(0, .ref (ad 0)), (1, .int x1)] → k5 x1 σ → W p l e (rmgR (d + 1)) s m args below meth c H locs 0 0 Q (F0 m 5 ls [])) (s0 : Int32) (σ : St) (H : Heap) (locs : List Loc) (ls : Array Slot), xW D KA layR stR ad ids (xA ad ids s.heap.size) s.heap σ H locs → lv_has ls 3 [(0, .ref (ad 0))] → wX12_both_37 rec k5 post s0 σ → W p l e (rmgR (d + 1)) s m args below meth c H locs 0 0 Q (F0 m 37 ls [.int s0]) := by
    intro  k5 hk5 s0 σ H locs ls hW hl h
    unfold wX12_both_37 at h
    refine lv_istore_n (lv' := [(1, .int s0), (0, .ref (ad 0))]) hx hb dX12_both_37 rfl hl (by decide) rfl (fun ls hl => ?_)
    refine lv_goto (tgt := 5) hx hb dX12_both_38 (by decide) ?_
    exact hk5 s0 _ _ _ _ hW (lv_sub hl [1, 0] rfl) h
  have blk36 : ∀ (k5 : Int32 → St → Prop) (hk5 : ∀ (x1 : Int32) (σ : St) (H : Heap) (locs : List Loc) (ls : Array Slot), xW D KA layR stR ad ids (xA ad ids s.heap.size) s.heap σ H locs → lv_has ls 3 [(0, .ref (ad 0)), (1, .int x1)] → k5 x1 σ → W p l e (rmgR (d + 1)) s m args below meth c H locs 0 0 Q (F0 m 5 ls []))  (σ : St) (H : Heap) (locs : List Loc) (ls : Array Slot), xW D KA layR stR ad ids (xA ad ids s.heap.size) s.heap σ H locs → lv_has ls 3 [(0, .ref (ad 0))] → wX12_both_36 rec k5 post  σ → W p l e (rmgR (d + 1)) s m args below meth c H locs 0 0 Q (F0 m 36 ls []) := by
    intro  k5 hk5  σ H locs ls hW hl h
    unfold wX12_both_36 at h
    refine lv_iconst (v := 0) hx hb dX12_both_36 (by decide) ?_
    exact blk37  k5 hk5 (0 : Int32) _ _ _ _ hW (lv_sub hl [0] rfl) h
  have blk5 : ∀ (n : Nat) (x1 : Int32) (σ : St) (H : Heap) (locs : List Loc) (ls : Array Slot), xW D KA layR stR ad ids (xA ad ids s.heap.size) s.heap σ H locs → lv_has ls 3 [(0, .ref (ad 0)), (1, .int x1)] → wX12_both_5 rec post  n x1 σ → W p l e (rmgR (d + 1)) s m args below meth c H locs 0 0 Q (F0 m 5 ls []) := by
    intro    n
    induction n with
    | zero => intro x1 σ H locs ls hW hl h; exact (h : False).elim
    | succ n ih =>
      intro x1 σ H locs ls hW hl h
      have hk5 : ∀ (x1 : Int32) (σ : St) (H : Heap) (locs : List Loc) (ls : Array Slot), xW D KA layR stR ad ids (xA ad ids s.heap.size) s.heap σ H locs → lv_has ls 3 [(0, .ref (ad 0)), (1, .int x1)] → (wX12_both_5 rec post  n) x1 σ → W p l e (rmgR (d + 1)) s m args below meth c H locs 0 0 Q (F0 m 5 ls []) := fun x1 σ H locs ls hW hl h => ih x1 σ H locs ls hW hl h
      rw [wX12_both_5_s] at h
      try dsimp only at h
      generalize wX12_both_5 rec post  n = k5 at h hk5
      refine lv_aload_n hx hb dX12_both_5 rfl (lv_at hl 0 rfl) ?_
      refine lv_ldc2 hx hb hown (hts _ hwX12_both_0) dX12_both_6 ?_
      refine x_calli (va_runV (As := [.long (1111 : Int64)]) (rest := []) ⟨hx, hb, hml, hown, hts⟩ (J_X12_isWord l hI h) (cwV 1 hts gX12_both_X12_isWord rfl rfl rfl hdV_X12_isWord ⟨rmgR_of d (Nat.le_of_ble_eq_true rfl), rmgR_ol d (Nat.le_of_ble_eq_true rfl)⟩) (x_preV (ci := 12) hK hZ hA hW (hI 0 (by decide)) lR_0 rfl) rfl rfl hl.1 rfl (lv_room (Nat.le_of_ble_eq_true rfl)) dX12_both_9 ⟨Nat.zero_le _, Nat.zero_le _⟩) hW hA (fun r2 σ1 H locs h hW => ?_)
      try dsimp only at h
      refine lv_if_eq (tgt := 41) hx hb dX12_both_12 (by decide) (fun c3 => ?_) (fun c3 => ?_)
      · have h := h.1 c3
        refine lv_iload_n hx hb dX12_both_41 rfl (lv_at hl 1 rfl) ?_
        exact kr _ _ _ _ _ _ hW h dX12_both_42
      · have h := h.2 c3
        refine lv_aload_n hx hb dX12_both_15 rfl (lv_at hl 0 rfl) ?_
        refine x_callv (va_runV (As := []) (rest := []) ⟨hx, hb, hml, hown, hts⟩ (J_X12_next l hI h) (cwV 0 hts gX12_both_X12_next rfl rfl rfl hdV_X12_next ⟨rmgR_of d (Nat.le_of_ble_eq_true rfl), rmgR_ol d (Nat.le_of_ble_eq_true rfl)⟩) (x_preV (ci := 12) hK hZ hA hW (hI 0 (by decide)) lR_0 rfl) rfl rfl hl.1 rfl (lv_room (Nat.le_of_ble_eq_true rfl)) dX12_both_16 ⟨Nat.zero_le _, Nat.zero_le _⟩) hW hA (fun σ4 H locs h hW => ?_)
        try dsimp only at h
        refine lv_aload_n hx hb dX12_both_19 rfl (lv_at hl 0 rfl) ?_
        refine x_calli (va_runV (As := []) (rest := []) ⟨hx, hb, hml, hown, hts⟩ (hrec2 h) (cwV 0 hts gX12_both_X12_not rfl rfl rfl hdV_X12_not ⟨rmgR_f d, rmgR_l d (Nat.le_of_ble_eq_true rfl)⟩) (x_preV (ci := 12) hK hZ hA hW (hI 0 (by decide)) lR_0 rfl) rfl rfl hl.1 rfl (lv_room (Nat.le_of_ble_eq_true rfl)) dX12_both_20 ⟨Nat.zero_le _, Nat.zero_le _⟩) hW hA (fun r6 σ5 H locs h hW => ?_)
        try dsimp only at h
        refine lv_istore_n (lv' := [(2, .int r6), (0, .ref (ad 0)), (1, .int x1)]) hx hb dX12_both_23 rfl hl (by decide) rfl (fun ls hl => ?_)
        refine lv_iload_n hx hb dX12_both_24 rfl (lv_at hl 2 rfl) ?_
        refine lv_if_eq (tgt := 36) hx hb dX12_both_25 (by decide) (fun c7 => ?_) (fun c7 => ?_)
        · have h := h.1 c7
          exact blk36  k5 hk5  _ _ _ _ hW (lv_sub hl [1] rfl) h
        · have h := h.2 c7
          refine lv_iload_n hx hb dX12_both_28 rfl (lv_at hl 0 rfl) ?_
          refine lv_if_eq (tgt := 36) hx hb dX12_both_29 (by decide) (fun c8 => ?_) (fun c8 => ?_)
          · have h := h.1 c8
            exact blk36  k5 hk5  _ _ _ _ hW (lv_sub hl [1] rfl) h
          · have h := h.2 c8
            refine lv_iconst (v := 1) hx hb dX12_both_32 (by decide) ?_
            refine lv_goto (tgt := 37) hx hb dX12_both_33 (by decide) ?_
            exact blk37  k5 hk5 (1 : Int32) _ _ _ _ hW (lv_sub hl [1] rfl) h
  have main : ∀ (H : Heap) (locs : List Loc) (ls : Array Slot), xW D KA layR stR ad ids (xA ad ids s.heap.size) s.heap σ H locs → lv_has ls 3 [(0, .ref (ad 0))] → W p l e (rmgR (d + 1)) s m args below meth c H locs 0 0 Q (F0 m 0 ls []) := by
    intro H locs ls hW hl
    unfold wX12_both at h
    refine lv_aload_n hx hb dX12_both_0 rfl (lv_at hl 0 rfl) ?_
    refine x_calli (va_runV (As := []) (rest := []) ⟨hx, hb, hml, hown, hts⟩ (hrec2 h) (cwV 0 hts gX12_both_X12_not rfl rfl rfl hdV_X12_not ⟨rmgR_f d, rmgR_l d (Nat.le_of_ble_eq_true rfl)⟩) (x_preV (ci := 12) hK hZ hA hW (hI 0 (by decide)) lR_0 rfl) rfl rfl hl.1 rfl (lv_room (Nat.le_of_ble_eq_true rfl)) dX12_both_1 ⟨Nat.zero_le _, Nat.zero_le _⟩) hW hA (fun r1002 σ1001 H locs h hW => ?_)
    try dsimp only at h
    refine lv_istore_n (lv' := [(1, .int r1002), (0, .ref (ad 0))]) hx hb dX12_both_4 rfl hl (by decide) rfl (fun ls hl => ?_)
    obtain ⟨n, h⟩ := h
    exact blk5    n r1002 _ _ _ _ hW (lv_sub hl [1, 0] rfl) h
  exact main _ _ _ hW hl
theorem hwX12_either_0 : (.constantLong RX12 402 (423) : Cond) ∈ wsX12_either := (List.mem_cons_of_mem _ (List.mem_append_left _ (List.mem_append_left _ (List.mem_of_getElem? (i := 0) rfl))))
set_option maxHeartbeats 4000000 in
set_option maxRecDepth 100000 in
theorem JO_X12_either {D : va_G} {KA : Nat → ClassId} {zs : ZS} {ad : Nat → Nat} {ids : List Nat} {sz : Nat} (l : Launch) (hI : ∀ c, c < 35 → c ∈ ids) (d : Nat) {rec : Nat → St → (Int32 → St → Prop) → Prop} (hrec0 : ∀ {σ : St} {post : Int32 → St → Prop} {sz : Nat}, rec 0  σ post → Met l yX12_either wsX12_either (rmgR d) (va_Pc [.ref (ad 0)] (xIn D KA zs layR stR ad ids sz σ)) (va_Qi post (xOut D KA layR stR ad ids) (xA ad ids sz)) 0 0 (xA ad ids sz)) (hrec1 : ∀ {σ : St} {post : Int32 → St → Prop} {sz : Nat}, rec 1  σ post → Met l yX12_both wsX12_both (rmgR d) (va_Pc [.ref (ad 0)] (xIn D KA zs layR stR ad ids sz σ)) (va_Qi post (xOut D KA layR stR ad ids) (xA ad ids sz)) 0 0 (xA ad ids sz)) (hrec2 : ∀ {σ : St} {post : Int32 → St → Prop} {sz : Nat}, rec 2  σ post → Met l yX12_not wsX12_not (rmgR d) (va_Pc [.ref (ad 0)] (xIn D KA zs layR stR ad ids sz σ)) (va_Qi post (xOut D KA layR stR ad ids) (xA ad ids sz)) 0 0 (xA ad ids sz)) (hrec3 : ∀ {σ : St} {post : Int32 → St → Prop} {sz : Nat}, rec 3  σ post → Met l yX12_added wsX12_added (rmgR d) (va_Pc [.ref (ad 0)] (xIn D KA zs layR stR ad ids sz σ)) (va_Qi post (xOut D KA layR stR ad ids) (xA ad ids sz)) 0 0 (xA ad ids sz)) (hrec4 : ∀ {σ : St} {post : Int32 → St → Prop} {sz : Nat}, rec 4  σ post → Met l yX12_term wsX12_term (rmgR d) (va_Pc [.ref (ad 0)] (xIn D KA zs layR stR ad ids sz σ)) (va_Qi post (xOut D KA layR stR ad ids) (xA ad ids sz)) 0 0 (xA ad ids sz)) (hrec5 : ∀ {σ : St} {post : Int32 → St → Prop} {sz : Nat}, rec 5  σ post → Met l yX12_one wsX12_one (rmgR d) (va_Pc [.ref (ad 0)] (xIn D KA zs layR stR ad ids sz σ)) (va_Qi post (xOut D KA layR stR ad ids) (xA ad ids sz)) 0 0 (xA ad ids sz))   {σ : St} {post : Int32 → St → Prop} (h : wX12_either rec  σ post) : Met l yX12_either wsX12_either (rmgR (d + 1)) (va_Pc [.ref (ad 0)] (xIn D KA zs layR stR ad ids sz σ)) (va_Qi post (xOut D KA layR stR ad ids) (xA ad ids sz)) 0 0 (xA ad ids sz) := by
  refine Met.ofW (cc := cX12_either) (maxL := 3) (ret := (some .int)) (by decide) rfl ?_
  intro p e s m args below meth c s₁ B hml hv
  obtain ⟨hav, hsz, hK, hZ, hP, hD⟩ := hv
  have hx := B.exec
  have hb := B.bytes
  have hr := B.returns
  have hts := atoms_spec (ws := wsX12_either) B.pre
  have hown : s.vm.findClass RX12 = some m.cls := findClass_of_methodNamed B.named
  have hlocks := B.notSynchronized
  subst hsz
  have hA : ∀ q : Nat, s.heap.size ≤ q → xA ad ids s.heap.size q := fun q h => Or.inr h
  have hW : xW D KA layR stR ad ids (xA ad ids s.heap.size) s.heap σ s.heap [] := ⟨hP, xA_D (D := D) hD, va_S.rf⟩
  have kr : ∀ (v : Int32) (σ : St) (H : Heap) (locs : List Loc) (ls : Array Slot) (pc : Nat), xW D KA layR stR ad ids (xA ad ids s.heap.size) s.heap σ H locs → post v σ → decode cX12_either pc = .ok (.ireturn, 1) → W p l e (rmgR (d + 1)) s m args below meth c H locs 0 0 (MQ below (va_Qi post (xOut D KA layR stR ad ids) (xA ad ids s.heap.size)) args s 0 0 (xA ad ids s.heap.size)) (F0 m pc ls [.int v]) := fun v σ H locs ls pc hW h hd => x_iret hx hb hr hlocks hW h hd
  have hl := lv_entry ([.ref (ad 0)]) (n := 3) (Nat.le_of_ble_eq_true rfl)
  rw [show entryFrame m args 3 = entryFrame m ([.ref (ad 0)] : List Value).toArray 3 from by rw [hav]]
  rw [lg_entry_eq]
  generalize (lg_sl ([.ref (ad 0)]) ++ List.replicate (3 - (lg_sl ([.ref (ad 0)])).length) Slot.unset).toArray = ls at hl ⊢
  have hl : lv_has ls 3 [(0, .ref (ad 0))] := hl
  show W p l e (rmgR (d + 1)) s m args below meth c s.heap [] 0 0 _ _
  generalize MQ below (va_Qi post (xOut D KA layR stR ad ids) (xA ad ids s.heap.size)) args s 0 0 (xA ad ids s.heap.size) = Q at kr ⊢
  have blk37 : ∀ (k5 : Int32 → St → Prop) (hk5 : ∀ (x1 : Int32) (σ : St) (H : Heap) (locs : List Loc) (ls : Array Slot), xW D KA layR stR ad ids (xA ad ids s.heap.size) s.heap σ H locs → lv_has ls 3 [(0, .ref (ad 0)), (1, .int x1)] → k5 x1 σ → W p l e (rmgR (d + 1)) s m args below meth c H locs 0 0 Q (F0 m 5 ls [])) (s0 : Int32) (σ : St) (H : Heap) (locs : List Loc) (ls : Array Slot), xW D KA layR stR ad ids (xA ad ids s.heap.size) s.heap σ H locs → lv_has ls 3 [(0, .ref (ad 0))] → wX12_either_37 rec k5 post s0 σ → W p l e (rmgR (d + 1)) s m args below meth c H locs 0 0 Q (F0 m 37 ls [.int s0]) := by
    intro  k5 hk5 s0 σ H locs ls hW hl h
    unfold wX12_either_37 at h
    refine lv_istore_n (lv' := [(1, .int s0), (0, .ref (ad 0))]) hx hb dX12_either_37 rfl hl (by decide) rfl (fun ls hl => ?_)
    refine lv_goto (tgt := 5) hx hb dX12_either_38 (by decide) ?_
    exact hk5 s0 _ _ _ _ hW (lv_sub hl [1, 0] rfl) h
  have blk32 : ∀ (k5 : Int32 → St → Prop) (hk5 : ∀ (x1 : Int32) (σ : St) (H : Heap) (locs : List Loc) (ls : Array Slot), xW D KA layR stR ad ids (xA ad ids s.heap.size) s.heap σ H locs → lv_has ls 3 [(0, .ref (ad 0)), (1, .int x1)] → k5 x1 σ → W p l e (rmgR (d + 1)) s m args below meth c H locs 0 0 Q (F0 m 5 ls []))  (σ : St) (H : Heap) (locs : List Loc) (ls : Array Slot), xW D KA layR stR ad ids (xA ad ids s.heap.size) s.heap σ H locs → lv_has ls 3 [(0, .ref (ad 0))] → wX12_either_32 rec k5 post  σ → W p l e (rmgR (d + 1)) s m args below meth c H locs 0 0 Q (F0 m 32 ls []) := by
    intro  k5 hk5  σ H locs ls hW hl h
    unfold wX12_either_32 at h
    refine lv_iconst (v := 1) hx hb dX12_either_32 (by decide) ?_
    refine lv_goto (tgt := 37) hx hb dX12_either_33 (by decide) ?_
    exact blk37  k5 hk5 (1 : Int32) _ _ _ _ hW (lv_sub hl [0] rfl) h
  have blk5 : ∀ (n : Nat) (x1 : Int32) (σ : St) (H : Heap) (locs : List Loc) (ls : Array Slot), xW D KA layR stR ad ids (xA ad ids s.heap.size) s.heap σ H locs → lv_has ls 3 [(0, .ref (ad 0)), (1, .int x1)] → wX12_either_5 rec post  n x1 σ → W p l e (rmgR (d + 1)) s m args below meth c H locs 0 0 Q (F0 m 5 ls []) := by
    intro    n
    induction n with
    | zero => intro x1 σ H locs ls hW hl h; exact (h : False).elim
    | succ n ih =>
      intro x1 σ H locs ls hW hl h
      have hk5 : ∀ (x1 : Int32) (σ : St) (H : Heap) (locs : List Loc) (ls : Array Slot), xW D KA layR stR ad ids (xA ad ids s.heap.size) s.heap σ H locs → lv_has ls 3 [(0, .ref (ad 0)), (1, .int x1)] → (wX12_either_5 rec post  n) x1 σ → W p l e (rmgR (d + 1)) s m args below meth c H locs 0 0 Q (F0 m 5 ls []) := fun x1 σ H locs ls hW hl h => ih x1 σ H locs ls hW hl h
      rw [wX12_either_5_s] at h
      try dsimp only at h
      generalize wX12_either_5 rec post  n = k5 at h hk5
      refine lv_aload_n hx hb dX12_either_5 rfl (lv_at hl 0 rfl) ?_
      refine lv_ldc2 hx hb hown (hts _ hwX12_either_0) dX12_either_6 ?_
      refine x_calli (va_runV (As := [.long (423 : Int64)]) (rest := []) ⟨hx, hb, hml, hown, hts⟩ (J_X12_isWord l hI h) (cwV 1 hts gX12_either_X12_isWord rfl rfl rfl hdV_X12_isWord ⟨rmgR_of d (Nat.le_of_ble_eq_true rfl), rmgR_ol d (Nat.le_of_ble_eq_true rfl)⟩) (x_preV (ci := 12) hK hZ hA hW (hI 0 (by decide)) lR_0 rfl) rfl rfl hl.1 rfl (lv_room (Nat.le_of_ble_eq_true rfl)) dX12_either_9 ⟨Nat.zero_le _, Nat.zero_le _⟩) hW hA (fun r2 σ1 H locs h hW => ?_)
      try dsimp only at h
      refine lv_if_eq (tgt := 41) hx hb dX12_either_12 (by decide) (fun c3 => ?_) (fun c3 => ?_)
      · have h := h.1 c3
        refine lv_iload_n hx hb dX12_either_41 rfl (lv_at hl 1 rfl) ?_
        exact kr _ _ _ _ _ _ hW h dX12_either_42
      · have h := h.2 c3
        refine lv_aload_n hx hb dX12_either_15 rfl (lv_at hl 0 rfl) ?_
        refine x_callv (va_runV (As := []) (rest := []) ⟨hx, hb, hml, hown, hts⟩ (J_X12_next l hI h) (cwV 0 hts gX12_either_X12_next rfl rfl rfl hdV_X12_next ⟨rmgR_of d (Nat.le_of_ble_eq_true rfl), rmgR_ol d (Nat.le_of_ble_eq_true rfl)⟩) (x_preV (ci := 12) hK hZ hA hW (hI 0 (by decide)) lR_0 rfl) rfl rfl hl.1 rfl (lv_room (Nat.le_of_ble_eq_true rfl)) dX12_either_16 ⟨Nat.zero_le _, Nat.zero_le _⟩) hW hA (fun σ4 H locs h hW => ?_)
        try dsimp only at h
        refine lv_aload_n hx hb dX12_either_19 rfl (lv_at hl 0 rfl) ?_
        refine x_calli (va_runV (As := []) (rest := []) ⟨hx, hb, hml, hown, hts⟩ (hrec1 h) (cwV 0 hts gX12_either_X12_both rfl rfl rfl hdV_X12_both ⟨rmgR_f d, rmgR_l d (Nat.le_of_ble_eq_true rfl)⟩) (x_preV (ci := 12) hK hZ hA hW (hI 0 (by decide)) lR_0 rfl) rfl rfl hl.1 rfl (lv_room (Nat.le_of_ble_eq_true rfl)) dX12_either_20 ⟨Nat.zero_le _, Nat.zero_le _⟩) hW hA (fun r6 σ5 H locs h hW => ?_)
        try dsimp only at h
        refine lv_istore_n (lv' := [(2, .int r6), (0, .ref (ad 0)), (1, .int x1)]) hx hb dX12_either_23 rfl hl (by decide) rfl (fun ls hl => ?_)
        refine lv_iload_n hx hb dX12_either_24 rfl (lv_at hl 2 rfl) ?_
        refine lv_if_ne (tgt := 32) hx hb dX12_either_25 (by decide) (fun c7 => ?_) (fun c7 => ?_)
        · have h := h.1 c7
          exact blk32  k5 hk5  _ _ _ _ hW (lv_sub hl [1] rfl) h
        · have h := h.2 c7
          refine lv_iload_n hx hb dX12_either_28 rfl (lv_at hl 0 rfl) ?_
          refine lv_if_eq (tgt := 36) hx hb dX12_either_29 (by decide) (fun c8 => ?_) (fun c8 => ?_)
          · have h := h.1 c8
            refine lv_iconst (v := 0) hx hb dX12_either_36 (by decide) ?_
            exact blk37  k5 hk5 (0 : Int32) _ _ _ _ hW (lv_sub hl [1] rfl) h
          · have h := h.2 c8
            exact blk32  k5 hk5  _ _ _ _ hW (lv_sub hl [1] rfl) h
  have main : ∀ (H : Heap) (locs : List Loc) (ls : Array Slot), xW D KA layR stR ad ids (xA ad ids s.heap.size) s.heap σ H locs → lv_has ls 3 [(0, .ref (ad 0))] → W p l e (rmgR (d + 1)) s m args below meth c H locs 0 0 Q (F0 m 0 ls []) := by
    intro H locs ls hW hl
    unfold wX12_either at h
    refine lv_aload_n hx hb dX12_either_0 rfl (lv_at hl 0 rfl) ?_
    refine x_calli (va_runV (As := []) (rest := []) ⟨hx, hb, hml, hown, hts⟩ (hrec1 h) (cwV 0 hts gX12_either_X12_both rfl rfl rfl hdV_X12_both ⟨rmgR_f d, rmgR_l d (Nat.le_of_ble_eq_true rfl)⟩) (x_preV (ci := 12) hK hZ hA hW (hI 0 (by decide)) lR_0 rfl) rfl rfl hl.1 rfl (lv_room (Nat.le_of_ble_eq_true rfl)) dX12_either_1 ⟨Nat.zero_le _, Nat.zero_le _⟩) hW hA (fun r1002 σ1001 H locs h hW => ?_)
    try dsimp only at h
    refine lv_istore_n (lv' := [(1, .int r1002), (0, .ref (ad 0))]) hx hb dX12_either_4 rfl hl (by decide) rfl (fun ls hl => ?_)
    obtain ⟨n, h⟩ := h
    exact blk5    n r1002 _ _ _ _ hW (lv_sub hl [1, 0] rfl) h
  exact main _ _ _ hW hl
theorem hwX12_fail_0 : (.fieldLink RX12 316 "FortyBeltsModel" "bad" "Z" : Cond) ∈ wsX12_fail := (List.mem_cons_of_mem _ (List.mem_append_left _ (List.mem_of_getElem? (i := 0) rfl)))
theorem hwX12_fail_1 : (.fieldLink RX12 290 "FortyBeltsModel" "tokenAt" "I" : Cond) ∈ wsX12_fail := (List.mem_cons_of_mem _ (List.mem_append_left _ (List.mem_of_getElem? (i := 1) rfl)))
theorem hwX12_fail_2 : (.fieldLink RX12 320 "FortyBeltsModel" "fault" "I" : Cond) ∈ wsX12_fail := (List.mem_cons_of_mem _ (List.mem_append_left _ (List.mem_of_getElem? (i := 2) rfl)))
theorem hcX12_fail_X12 : ∀ w ∈ wsX120, w ∈ wsX12_fail := fun _ h => (List.mem_cons_of_mem _ (List.mem_append_right _ h))
set_option maxHeartbeats 4000000 in
set_option maxRecDepth 100000 in
theorem J_X12_fail {D : va_G} {KA : Nat → ClassId} {zs : ZS} {ad : Nat → Nat} {ids : List Nat} {sz : Nat} (l : Launch) (hI : ∀ c, c < 35 → c ∈ ids)   {σ : St} {post : St → Prop} (h : wX12_fail   σ post) : Met l yX12_fail wsX12_fail rmX12_fail (va_Pc [.ref (ad 0)] (xIn D KA zs layR stR ad ids sz σ)) (va_Qv post (xOut D KA layR stR ad ids) (xA ad ids sz)) 0 0 (xA ad ids sz) := by
  refine Met.ofW (cc := cX12_fail) (maxL := 1) (ret := none) (by decide) rfl ?_
  intro p e s m args below meth c s₁ B hml hv
  obtain ⟨hav, hsz, hK, hZ, hP, hD⟩ := hv
  have hx := B.exec
  have hb := B.bytes
  have hr := B.returns
  have hts := atoms_spec (ws := wsX12_fail) B.pre
  have hown : s.vm.findClass RX12 = some m.cls := findClass_of_methodNamed B.named
  have hlocks := B.notSynchronized
  subst hsz
  have hA : ∀ q : Nat, s.heap.size ≤ q → xA ad ids s.heap.size q := fun q h => Or.inr h
  have hW : xW D KA layR stR ad ids (xA ad ids s.heap.size) s.heap σ s.heap [] := ⟨hP, xA_D (D := D) hD, va_S.rf⟩
  have kr : ∀ (σ : St) (H : Heap) (locs : List Loc) (ls : Array Slot) (pc : Nat), xW D KA layR stR ad ids (xA ad ids s.heap.size) s.heap σ H locs → post σ → decode cX12_fail pc = .ok (.return_, 1) → W p l e rmX12_fail s m args below meth c H locs 0 0 (MQ below (va_Qv post (xOut D KA layR stR ad ids) (xA ad ids s.heap.size)) args s 0 0 (xA ad ids s.heap.size)) (F0 m pc ls []) := fun σ H locs ls pc hW h hd => x_vret hx hb hr hlocks hW h hd
  have hl := lv_entry ([.ref (ad 0)]) (n := 1) (Nat.le_of_ble_eq_true rfl)
  rw [show entryFrame m args 1 = entryFrame m ([.ref (ad 0)] : List Value).toArray 1 from by rw [hav]]
  rw [lg_entry_eq]
  generalize (lg_sl ([.ref (ad 0)]) ++ List.replicate (1 - (lg_sl ([.ref (ad 0)])).length) Slot.unset).toArray = ls at hl ⊢
  have hl : lv_has ls 1 [(0, .ref (ad 0))] := hl
  show W p l e rmX12_fail s m args below meth c s.heap [] 0 0 _ _
  generalize MQ below (va_Qv post (xOut D KA layR stR ad ids) (xA ad ids s.heap.size)) args s 0 0 (xA ad ids s.heap.size) = Q at kr ⊢
  have blk20 : ∀ (σ : St) (H : Heap) (locs : List Loc) (ls : Array Slot), xW D KA layR stR ad ids (xA ad ids s.heap.size) s.heap σ H locs → lv_has ls 1 [] → wX12_fail_20 post  σ → W p l e rmX12_fail s m args below meth c H locs 0 0 Q (F0 m 20 ls []) := by
    intro    σ H locs ls hW hl h
    unfold wX12_fail_20 at h
    exact kr _ _ _ _ _ hW h dX12_fail_20
  have main : ∀ (H : Heap) (locs : List Loc) (ls : Array Slot), xW D KA layR stR ad ids (xA ad ids s.heap.size) s.heap σ H locs → lv_has ls 1 [(0, .ref (ad 0))] → W p l e rmX12_fail s m args below meth c H locs 0 0 Q (F0 m 0 ls []) := by
    intro H locs ls hW hl
    unfold wX12_fail at h
    refine lv_aload_n hx hb dX12_fail_0 rfl (lv_at hl 0 rfl) ?_
    refine xgX12_43 hx hb hts hown hK hW 0 hcX12_fail_X12 (hI 0 (by decide)) lR_0 (hts _ hwX12_fail_0) dX12_fail_1 ?_
    refine lv_if_ne (tgt := 20) hx hb dX12_fail_4 (by decide) (fun c1001 => ?_) (fun c1001 => ?_)
    · have h := h.1 c1001
      exact blk20    _ _ _ _ hW (lv_sub hl [] rfl) h
    · have h := h.2 c1001
      refine lv_aload_n hx hb dX12_fail_7 rfl (lv_at hl 0 rfl) ?_
      refine lv_iconst (v := 1) hx hb dX12_fail_8 (by decide) ?_
      refine xpX12_43 hx hb hts hown hK hW 0 hcX12_fail_X12 (hI 0 (by decide)) lR_0 (hts _ hwX12_fail_0) isB_1 dX12_fail_9 (fun σ1002 H locs hσ1002 hW => ?_)
      have h := h σ1002 hσ1002
      refine lv_aload_n hx hb dX12_fail_12 rfl (lv_at hl 0 rfl) ?_
      refine lv_aload_n hx hb dX12_fail_13 rfl (lv_at hl 0 rfl) ?_
      refine xgX12_39 hx hb hts hown hK hW 0 hcX12_fail_X12 (hI 0 (by decide)) lR_0 (hts _ hwX12_fail_1) dX12_fail_14 ?_
      refine xpX12_44 hx hb hts hown hK hW 0 hcX12_fail_X12 (hI 0 (by decide)) lR_0 (hts _ hwX12_fail_2) dX12_fail_17 (fun σ1003 H locs hσ1003 hW => ?_)
      have h := h σ1003 hσ1003
      exact blk20    _ _ _ _ hW (lv_sub hl [] rfl) h
  exact main _ _ _ hW hl
theorem hwX12_opens_0 : (.fieldLink RX12 323 "FortyBeltsModel" "open" "I" : Cond) ∈ wsX12_opens := (List.mem_cons_of_mem _ (List.mem_append_left _ (List.mem_append_left _ (List.mem_of_getElem? (i := 0) rfl))))
theorem hcX12_opens_X12 : ∀ w ∈ wsX120, w ∈ wsX12_opens := fun _ h => (List.mem_cons_of_mem _ (List.mem_append_right _ h))
set_option maxHeartbeats 4000000 in
set_option maxRecDepth 100000 in
theorem J_X12_opens {D : va_G} {KA : Nat → ClassId} {zs : ZS} {ad : Nat → Nat} {ids : List Nat} {sz : Nat} (l : Launch) (hI : ∀ c, c < 35 → c ∈ ids)   {σ : St} {post : Int32 → St → Prop} (h : wX12_opens   σ post) : Met l yX12_opens wsX12_opens rmX12_opens (va_Pc [.ref (ad 0)] (xIn D KA zs layR stR ad ids sz σ)) (va_Qi post (xOut D KA layR stR ad ids) (xA ad ids sz)) 0 0 (xA ad ids sz) := by
  refine Met.ofW (cc := cX12_opens) (maxL := 1) (ret := (some .boolean)) (by decide) rfl ?_
  intro p e s m args below meth c s₁ B hml hv
  obtain ⟨hav, hsz, hK, hZ, hP, hD⟩ := hv
  have hx := B.exec
  have hb := B.bytes
  have hr := B.returns
  have hts := atoms_spec (ws := wsX12_opens) B.pre
  have hown : s.vm.findClass RX12 = some m.cls := findClass_of_methodNamed B.named
  have hlocks := B.notSynchronized
  subst hsz
  have hA : ∀ q : Nat, s.heap.size ≤ q → xA ad ids s.heap.size q := fun q h => Or.inr h
  have hW : xW D KA layR stR ad ids (xA ad ids s.heap.size) s.heap σ s.heap [] := ⟨hP, xA_D (D := D) hD, va_S.rf⟩
  have kr : ∀ (v : Int32) (σ : St) (H : Heap) (locs : List Loc) (ls : Array Slot) (pc : Nat), xW D KA layR stR ad ids (xA ad ids s.heap.size) s.heap σ H locs → isB v → post v σ → decode cX12_opens pc = .ok (.ireturn, 1) → W p l e rmX12_opens s m args below meth c H locs 0 0 (MQ below (va_Qi post (xOut D KA layR stR ad ids) (xA ad ids s.heap.size)) args s 0 0 (xA ad ids s.heap.size)) (F0 m pc ls [.int v]) := fun v σ H locs ls pc hW hz h hd => x_zret hx hb hr hlocks hW hz h hd
  have hl := lv_entry ([.ref (ad 0)]) (n := 1) (Nat.le_of_ble_eq_true rfl)
  rw [show entryFrame m args 1 = entryFrame m ([.ref (ad 0)] : List Value).toArray 1 from by rw [hav]]
  rw [lg_entry_eq]
  generalize (lg_sl ([.ref (ad 0)]) ++ List.replicate (1 - (lg_sl ([.ref (ad 0)])).length) Slot.unset).toArray = ls at hl ⊢
  have hl : lv_has ls 1 [(0, .ref (ad 0))] := hl
  show W p l e rmX12_opens s m args below meth c s.heap [] 0 0 _ _
  generalize MQ below (va_Qi post (xOut D KA layR stR ad ids) (xA ad ids s.heap.size)) args s 0 0 (xA ad ids s.heap.size) = Q at kr ⊢
  have main : ∀ (H : Heap) (locs : List Loc) (ls : Array Slot), xW D KA layR stR ad ids (xA ad ids s.heap.size) s.heap σ H locs → lv_has ls 1 [(0, .ref (ad 0))] → W p l e rmX12_opens s m args below meth c H locs 0 0 Q (F0 m 0 ls []) := by
    intro H locs ls hW hl
    unfold wX12_opens at h
    refine lv_aload_n hx hb dX12_opens_0 rfl (lv_at hl 0 rfl) ?_
    refine xgX12_42 hx hb hts hown hK hW 0 hcX12_opens_X12 (hI 0 (by decide)) lR_0 (hts _ hwX12_opens_0) dX12_opens_1 ?_
    refine lv_iconst (v := 5) hx hb dX12_opens_4 (by decide) ?_
    refine lv_icmp_ne (tgt := 14) hx hb dX12_opens_5 (by decide) (fun c1001 => ?_) (fun c1001 => ?_)
    · have h := h.1 c1001
      refine lv_aload_n hx hb dX12_opens_14 rfl (lv_at hl 0 rfl) ?_
      refine lv_dup hx hb dX12_opens_15 rfl ?_
      refine xgX12_42 hx hb hts hown hK hW 0 hcX12_opens_X12 (hI 0 (by decide)) lR_0 (hts _ hwX12_opens_0) dX12_opens_16 ?_
      refine lv_iconst (v := 1) hx hb dX12_opens_19 (by decide) ?_
      refine lv_iadd hx hb dX12_opens_20 ?_
      refine xpX12_42 hx hb hts hown hK hW 0 hcX12_opens_X12 (hI 0 (by decide)) lR_0 (hts _ hwX12_opens_0) dX12_opens_21 (fun σ1002 H locs hσ1002 hW => ?_)
      have h := h σ1002 hσ1002
      refine lv_aload_n hx hb dX12_opens_24 rfl (lv_at hl 0 rfl) ?_
      refine x_callv (va_runV (As := []) (rest := []) ⟨hx, hb, hml, hown, hts⟩ (J_X12_next l hI h) (cwV 0 hts gX12_opens_X12_next rfl rfl rfl hdV_X12_next ⟨Nat.le_of_ble_eq_true rfl, Nat.le_of_ble_eq_true rfl⟩) (x_preV (ci := 12) hK hZ hA hW (hI 0 (by decide)) lR_0 rfl) rfl rfl hl.1 rfl (lv_room (Nat.le_of_ble_eq_true rfl)) dX12_opens_25 ⟨Nat.zero_le _, Nat.zero_le _⟩) hW hA (fun σ1003 H locs h hW => ?_)
      try dsimp only at h
      refine lv_iconst (v := 1) hx hb dX12_opens_28 (by decide) ?_
      exact kr _ _ _ _ _ _ hW isB_1 h dX12_opens_29
    · have h := h.2 c1001
      refine lv_aload_n hx hb dX12_opens_8 rfl (lv_at hl 0 rfl) ?_
      refine x_callv (va_runV (As := []) (rest := []) ⟨hx, hb, hml, hown, hts⟩ (J_X12_fail l hI h) (cwV 0 hts gX12_opens_X12_fail rfl rfl rfl hdV_X12_fail ⟨Nat.le_of_ble_eq_true rfl, Nat.le_of_ble_eq_true rfl⟩) (x_preV (ci := 12) hK hZ hA hW (hI 0 (by decide)) lR_0 rfl) rfl rfl hl.1 rfl (lv_room (Nat.le_of_ble_eq_true rfl)) dX12_opens_9 ⟨Nat.zero_le _, Nat.zero_le _⟩) hW hA (fun σ1004 H locs h hW => ?_)
      try dsimp only at h
      refine lv_iconst (v := 0) hx hb dX12_opens_12 (by decide) ?_
      exact kr _ _ _ _ _ _ hW isB_0 h dX12_opens_13
  exact main _ _ _ hW hl
theorem hwX12_not_0 : (.fieldLink RX12 300 "FortyBeltsModel" "tokenWorth" "J" : Cond) ∈ wsX12_not := (List.mem_cons_of_mem _ (List.mem_append_left _ (List.mem_append_left _ (List.mem_of_getElem? (i := 2) rfl))))
theorem hwX12_not_1 : (.constantLong RX12 395 (60) : Cond) ∈ wsX12_not := (List.mem_cons_of_mem _ (List.mem_append_left _ (List.mem_append_left _ (List.mem_of_getElem? (i := 3) rfl))))
theorem hwX12_not_2 : (.constantLong RX12 387 (10631) : Cond) ∈ wsX12_not := (List.mem_cons_of_mem _ (List.mem_append_left _ (List.mem_append_left _ (List.mem_of_getElem? (i := 0) rfl))))
theorem hwX12_not_3 : (.fieldLink RX12 323 "FortyBeltsModel" "open" "I" : Cond) ∈ wsX12_not := (List.mem_cons_of_mem _ (List.mem_append_left _ (List.mem_append_left _ (List.mem_of_getElem? (i := 1) rfl))))
theorem hcX12_not_X12 : ∀ w ∈ wsX120, w ∈ wsX12_not := fun _ h => (List.mem_cons_of_mem _ (List.mem_append_right _ h))
set_option maxHeartbeats 4000000 in
set_option maxRecDepth 100000 in
theorem JO_X12_not {D : va_G} {KA : Nat → ClassId} {zs : ZS} {ad : Nat → Nat} {ids : List Nat} {sz : Nat} (l : Launch) (hI : ∀ c, c < 35 → c ∈ ids) (d : Nat) {rec : Nat → St → (Int32 → St → Prop) → Prop} (hrec0 : ∀ {σ : St} {post : Int32 → St → Prop} {sz : Nat}, rec 0  σ post → Met l yX12_either wsX12_either (rmgR d) (va_Pc [.ref (ad 0)] (xIn D KA zs layR stR ad ids sz σ)) (va_Qi post (xOut D KA layR stR ad ids) (xA ad ids sz)) 0 0 (xA ad ids sz)) (hrec1 : ∀ {σ : St} {post : Int32 → St → Prop} {sz : Nat}, rec 1  σ post → Met l yX12_both wsX12_both (rmgR d) (va_Pc [.ref (ad 0)] (xIn D KA zs layR stR ad ids sz σ)) (va_Qi post (xOut D KA layR stR ad ids) (xA ad ids sz)) 0 0 (xA ad ids sz)) (hrec2 : ∀ {σ : St} {post : Int32 → St → Prop} {sz : Nat}, rec 2  σ post → Met l yX12_not wsX12_not (rmgR d) (va_Pc [.ref (ad 0)] (xIn D KA zs layR stR ad ids sz σ)) (va_Qi post (xOut D KA layR stR ad ids) (xA ad ids sz)) 0 0 (xA ad ids sz)) (hrec3 : ∀ {σ : St} {post : Int32 → St → Prop} {sz : Nat}, rec 3  σ post → Met l yX12_added wsX12_added (rmgR d) (va_Pc [.ref (ad 0)] (xIn D KA zs layR stR ad ids sz σ)) (va_Qi post (xOut D KA layR stR ad ids) (xA ad ids sz)) 0 0 (xA ad ids sz)) (hrec4 : ∀ {σ : St} {post : Int32 → St → Prop} {sz : Nat}, rec 4  σ post → Met l yX12_term wsX12_term (rmgR d) (va_Pc [.ref (ad 0)] (xIn D KA zs layR stR ad ids sz σ)) (va_Qi post (xOut D KA layR stR ad ids) (xA ad ids sz)) 0 0 (xA ad ids sz)) (hrec5 : ∀ {σ : St} {post : Int32 → St → Prop} {sz : Nat}, rec 5  σ post → Met l yX12_one wsX12_one (rmgR d) (va_Pc [.ref (ad 0)] (xIn D KA zs layR stR ad ids sz σ)) (va_Qi post (xOut D KA layR stR ad ids) (xA ad ids sz)) 0 0 (xA ad ids sz))   {σ : St} {post : Int32 → St → Prop} (h : wX12_not rec  σ post) : Met l yX12_not wsX12_not (rmgR (d + 1)) (va_Pc [.ref (ad 0)] (xIn D KA zs layR stR ad ids sz σ)) (va_Qi post (xOut D KA layR stR ad ids) (xA ad ids sz)) 0 0 (xA ad ids sz) := by
  refine Met.ofW (cc := cX12_not) (maxL := 4) (ret := (some .int)) (by decide) rfl ?_
  intro p e s m args below meth c s₁ B hml hv
  obtain ⟨hav, hsz, hK, hZ, hP, hD⟩ := hv
  have hx := B.exec
  have hb := B.bytes
  have hr := B.returns
  have hts := atoms_spec (ws := wsX12_not) B.pre
  have hown : s.vm.findClass RX12 = some m.cls := findClass_of_methodNamed B.named
  have hlocks := B.notSynchronized
  subst hsz
  have hA : ∀ q : Nat, s.heap.size ≤ q → xA ad ids s.heap.size q := fun q h => Or.inr h
  have hW : xW D KA layR stR ad ids (xA ad ids s.heap.size) s.heap σ s.heap [] := ⟨hP, xA_D (D := D) hD, va_S.rf⟩
  have kr : ∀ (v : Int32) (σ : St) (H : Heap) (locs : List Loc) (ls : Array Slot) (pc : Nat), xW D KA layR stR ad ids (xA ad ids s.heap.size) s.heap σ H locs → post v σ → decode cX12_not pc = .ok (.ireturn, 1) → W p l e (rmgR (d + 1)) s m args below meth c H locs 0 0 (MQ below (va_Qi post (xOut D KA layR stR ad ids) (xA ad ids s.heap.size)) args s 0 0 (xA ad ids s.heap.size)) (F0 m pc ls [.int v]) := fun v σ H locs ls pc hW h hd => x_iret hx hb hr hlocks hW h hd
  have hl := lv_entry ([.ref (ad 0)]) (n := 4) (Nat.le_of_ble_eq_true rfl)
  rw [show entryFrame m args 4 = entryFrame m ([.ref (ad 0)] : List Value).toArray 4 from by rw [hav]]
  rw [lg_entry_eq]
  generalize (lg_sl ([.ref (ad 0)]) ++ List.replicate (4 - (lg_sl ([.ref (ad 0)])).length) Slot.unset).toArray = ls at hl ⊢
  have hl : lv_has ls 4 [(0, .ref (ad 0))] := hl
  show W p l e (rmgR (d + 1)) s m args below meth c s.heap [] 0 0 _ _
  generalize MQ below (va_Qi post (xOut D KA layR stR ad ids) (xA ad ids s.heap.size)) args s 0 0 (xA ad ids s.heap.size) = Q at kr ⊢
  have blk117 : ∀ (s0 : Int32) (σ : St) (H : Heap) (locs : List Loc) (ls : Array Slot), xW D KA layR stR ad ids (xA ad ids s.heap.size) s.heap σ H locs → lv_has ls 4 [] → wX12_not_117 rec post s0 σ → W p l e (rmgR (d + 1)) s m args below meth c H locs 0 0 Q (F0 m 117 ls [.int s0]) := by
    intro   s0 σ H locs ls hW hl h
    unfold wX12_not_117 at h
    exact kr _ _ _ _ _ _ hW h dX12_not_117
  have blk116 : ∀ (σ : St) (H : Heap) (locs : List Loc) (ls : Array Slot), xW D KA layR stR ad ids (xA ad ids s.heap.size) s.heap σ H locs → lv_has ls 4 [] → wX12_not_116 rec post  σ → W p l e (rmgR (d + 1)) s m args below meth c H locs 0 0 Q (F0 m 116 ls []) := by
    intro    σ H locs ls hW hl h
    unfold wX12_not_116 at h
    refine lv_iconst (v := 0) hx hb dX12_not_116 (by decide) ?_
    exact blk117   (0 : Int32) _ _ _ _ hW (lv_sub hl [] rfl) h
  have blk112 : ∀ (σ : St) (H : Heap) (locs : List Loc) (ls : Array Slot), xW D KA layR stR ad ids (xA ad ids s.heap.size) s.heap σ H locs → lv_has ls 4 [] → wX12_not_112 rec post  σ → W p l e (rmgR (d + 1)) s m args below meth c H locs 0 0 Q (F0 m 112 ls []) := by
    intro    σ H locs ls hW hl h
    unfold wX12_not_112 at h
    refine lv_iconst (v := 1) hx hb dX12_not_112 (by decide) ?_
    refine lv_goto (tgt := 117) hx hb dX12_not_113 (by decide) ?_
    exact blk117   (1 : Int32) _ _ _ _ hW (lv_sub hl [] rfl) h
  have blk85 : ∀ (x1 : Int32) (s0 : Int32) (σ : St) (H : Heap) (locs : List Loc) (ls : Array Slot), xW D KA layR stR ad ids (xA ad ids s.heap.size) s.heap σ H locs → lv_has ls 4 [(0, .ref (ad 0)), (1, .int x1)] → wX12_not_85 rec post x1 s0 σ → W p l e (rmgR (d + 1)) s m args below meth c H locs 0 0 Q (F0 m 85 ls [.int s0]) := by
    intro   x1 s0 σ H locs ls hW hl h
    unfold wX12_not_85 at h
    refine lv_istore_n (lv' := [(2, .int s0), (0, .ref (ad 0)), (1, .int x1)]) hx hb dX12_not_85 rfl hl (by decide) rfl (fun ls hl => ?_)
    refine lv_aload_n hx hb dX12_not_86 rfl (lv_at hl 1 rfl) ?_
    refine x_callv (va_runV (As := []) (rest := []) ⟨hx, hb, hml, hown, hts⟩ (J_X12_next l hI h) (cwV 0 hts gX12_not_X12_next rfl rfl rfl hdV_X12_next ⟨rmgR_of d (Nat.le_of_ble_eq_true rfl), rmgR_ol d (Nat.le_of_ble_eq_true rfl)⟩) (x_preV (ci := 12) hK hZ hA hW (hI 0 (by decide)) lR_0 rfl) rfl rfl hl.1 rfl (lv_room (Nat.le_of_ble_eq_true rfl)) dX12_not_87 ⟨Nat.zero_le _, Nat.zero_le _⟩) hW hA (fun σ1 H locs h hW => ?_)
    try dsimp only at h
    refine lv_aload_n hx hb dX12_not_90 rfl (lv_at hl 1 rfl) ?_
    refine x_calli (va_runV (As := []) (rest := []) ⟨hx, hb, hml, hown, hts⟩ (hrec3 h) (cwV 0 hts gX12_not_X12_added rfl rfl rfl hdV_X12_added ⟨rmgR_f d, rmgR_l d (Nat.le_of_ble_eq_true rfl)⟩) (x_preV (ci := 12) hK hZ hA hW (hI 0 (by decide)) lR_0 rfl) rfl rfl hl.1 rfl (lv_room (Nat.le_of_ble_eq_true rfl)) dX12_not_91 ⟨Nat.zero_le _, Nat.zero_le _⟩) hW hA (fun r3 σ2 H locs h hW => ?_)
    try dsimp only at h
    refine lv_istore_n (lv' := [(3, .int r3), (2, .int s0), (0, .ref (ad 0)), (1, .int x1)]) hx hb dX12_not_94 rfl hl (by decide) rfl (fun ls hl => ?_)
    refine lv_iload_n hx hb dX12_not_95 rfl (lv_at hl 1 rfl) ?_
    refine lv_if_eq (tgt := 107) hx hb dX12_not_96 (by decide) (fun c4 => ?_) (fun c4 => ?_)
    · have h := h.1 c4
      refine lv_iload_n hx hb dX12_not_107 rfl (lv_at hl 3 rfl) ?_
      refine lv_iload_n hx hb dX12_not_108 rfl (lv_at hl 0 rfl) ?_
      refine lv_icmp_ne (tgt := 116) hx hb dX12_not_109 (by decide) (fun c5 => ?_) (fun c5 => ?_)
      · have h := h.1 c5
        exact blk116    _ _ _ _ hW (lv_sub hl [] rfl) h
      · have h := h.2 c5
        exact blk112    _ _ _ _ hW (lv_sub hl [] rfl) h
    · have h := h.2 c4
      refine lv_iload_n hx hb dX12_not_99 rfl (lv_at hl 3 rfl) ?_
      refine lv_iload_n hx hb dX12_not_100 rfl (lv_at hl 0 rfl) ?_
      refine lv_icmp_ge (tgt := 116) hx hb dX12_not_101 (by decide) (fun c6 => ?_) (fun c6 => ?_)
      · have h := h.1 c6
        exact blk116    _ _ _ _ hW (lv_sub hl [] rfl) h
      · have h := h.2 c6
        refine lv_goto (tgt := 112) hx hb dX12_not_104 (by decide) ?_
        exact blk112    _ _ _ _ hW (lv_sub hl [] rfl) h
  have blk69 : ∀ (x1 : Int32) (σ : St) (H : Heap) (locs : List Loc) (ls : Array Slot), xW D KA layR stR ad ids (xA ad ids s.heap.size) s.heap σ H locs → lv_has ls 4 [(0, .ref (ad 0)), (1, .int x1)] → wX12_not_69 rec post x1 σ → W p l e (rmgR (d + 1)) s m args below meth c H locs 0 0 Q (F0 m 69 ls []) := by
    intro   x1 σ H locs ls hW hl h
    unfold wX12_not_69 at h
    refine lv_aload_n hx hb dX12_not_69 rfl (lv_at hl 0 rfl) ?_
    refine xgX12_40 hx hb hts hown hK hW 0 hcX12_not_X12 (hI 0 (by decide)) lR_0 (hts _ hwX12_not_0) dX12_not_70 ?_
    refine lv_ldc2 hx hb hown (hts _ hwX12_not_1) dX12_not_73 ?_
    refine W.lcmp hx hb dX12_not_76 ?_
    refine lv_if_ne (tgt := 84) hx hb dX12_not_77 (by decide) (fun c7 => ?_) (fun c7 => ?_)
    · have h := h.1 c7
      refine lv_iconst (v := 0) hx hb dX12_not_84 (by decide) ?_
      exact blk85   x1 (0 : Int32) _ _ _ _ hW (lv_sub hl [0, 1] rfl) h
    · have h := h.2 c7
      refine lv_iconst (v := 1) hx hb dX12_not_80 (by decide) ?_
      refine lv_goto (tgt := 85) hx hb dX12_not_81 (by decide) ?_
      exact blk85   x1 (1 : Int32) _ _ _ _ hW (lv_sub hl [0, 1] rfl) h
  have blk43 : ∀ (s0 : Int32) (σ : St) (H : Heap) (locs : List Loc) (ls : Array Slot), xW D KA layR stR ad ids (xA ad ids s.heap.size) s.heap σ H locs → lv_has ls 4 [] → wX12_not_43 rec post s0 σ → W p l e (rmgR (d + 1)) s m args below meth c H locs 0 0 Q (F0 m 43 ls [.int s0]) := by
    intro   s0 σ H locs ls hW hl h
    unfold wX12_not_43 at h
    exact kr _ _ _ _ _ _ hW h dX12_not_43
  have main : ∀ (H : Heap) (locs : List Loc) (ls : Array Slot), xW D KA layR stR ad ids (xA ad ids s.heap.size) s.heap σ H locs → lv_has ls 4 [(0, .ref (ad 0))] → W p l e (rmgR (d + 1)) s m args below meth c H locs 0 0 Q (F0 m 0 ls []) := by
    intro H locs ls hW hl
    unfold wX12_not at h
    refine lv_aload_n hx hb dX12_not_0 rfl (lv_at hl 0 rfl) ?_
    refine lv_ldc2 hx hb hown (hts _ hwX12_not_2) dX12_not_1 ?_
    refine x_calli (va_runV (As := [.long (10631 : Int64)]) (rest := []) ⟨hx, hb, hml, hown, hts⟩ (J_X12_isWord l hI h) (cwV 1 hts gX12_not_X12_isWord rfl rfl rfl hdV_X12_isWord ⟨rmgR_of d (Nat.le_of_ble_eq_true rfl), rmgR_ol d (Nat.le_of_ble_eq_true rfl)⟩) (x_preV (ci := 12) hK hZ hA hW (hI 0 (by decide)) lR_0 rfl) rfl rfl hl.1 rfl (lv_room (Nat.le_of_ble_eq_true rfl)) dX12_not_4 ⟨Nat.zero_le _, Nat.zero_le _⟩) hW hA (fun r1002 σ1001 H locs h hW => ?_)
    try dsimp only at h
    refine lv_if_eq (tgt := 44) hx hb dX12_not_7 (by decide) (fun c1003 => ?_) (fun c1003 => ?_)
    · have h := h.1 c1003
      refine lv_aload_n hx hb dX12_not_44 rfl (lv_at hl 0 rfl) ?_
      refine x_calli (va_runV (As := []) (rest := []) ⟨hx, hb, hml, hown, hts⟩ (hrec3 h) (cwV 0 hts gX12_not_X12_added rfl rfl rfl hdV_X12_added ⟨rmgR_f d, rmgR_l d (Nat.le_of_ble_eq_true rfl)⟩) (x_preV (ci := 12) hK hZ hA hW (hI 0 (by decide)) lR_0 rfl) rfl rfl hl.1 rfl (lv_room (Nat.le_of_ble_eq_true rfl)) dX12_not_45 ⟨Nat.zero_le _, Nat.zero_le _⟩) hW hA (fun r1005 σ1004 H locs h hW => ?_)
      try dsimp only at h
      refine lv_istore_n (lv' := [(1, .int r1005), (0, .ref (ad 0))]) hx hb dX12_not_48 rfl hl (by decide) rfl (fun ls hl => ?_)
      refine lv_aload_n hx hb dX12_not_49 rfl (lv_at hl 1 rfl) ?_
      refine lv_bipush (v := 60) hx hb dX12_not_50 (by decide) ?_
      refine x_calli (va_runV (As := [.int (60 : Int32)]) (rest := []) ⟨hx, hb, hml, hown, hts⟩ (J_X12_isSign l hI h) (cwV 1 hts gX12_not_X12_isSign rfl rfl rfl hdV_X12_isSign ⟨rmgR_of d (Nat.le_of_ble_eq_true rfl), rmgR_ol d (Nat.le_of_ble_eq_true rfl)⟩) (x_preV (ci := 12) hK hZ hA hW (hI 0 (by decide)) lR_0 rfl) rfl rfl hl.1 rfl (lv_room (Nat.le_of_ble_eq_true rfl)) dX12_not_52 ⟨Nat.zero_le _, Nat.zero_le _⟩) hW hA (fun r1007 σ1006 H locs h hW => ?_)
      try dsimp only at h
      refine lv_if_ne (tgt := 69) hx hb dX12_not_55 (by decide) (fun c1008 => ?_) (fun c1008 => ?_)
      · have h := h.1 c1008
        exact blk69   r1005 _ _ _ _ hW (lv_sub hl [1, 0] rfl) h
      · have h := h.2 c1008
        refine lv_aload_n hx hb dX12_not_58 rfl (lv_at hl 1 rfl) ?_
        refine lv_bipush (v := 61) hx hb dX12_not_59 (by decide) ?_
        refine x_calli (va_runV (As := [.int (61 : Int32)]) (rest := []) ⟨hx, hb, hml, hown, hts⟩ (J_X12_isSign l hI h) (cwV 1 hts gX12_not_X12_isSign rfl rfl rfl hdV_X12_isSign ⟨rmgR_of d (Nat.le_of_ble_eq_true rfl), rmgR_ol d (Nat.le_of_ble_eq_true rfl)⟩) (x_preV (ci := 12) hK hZ hA hW (hI 0 (by decide)) lR_0 rfl) rfl rfl hl.1 rfl (lv_room (Nat.le_of_ble_eq_true rfl)) dX12_not_61 ⟨Nat.zero_le _, Nat.zero_le _⟩) hW hA (fun r1010 σ1009 H locs h hW => ?_)
        try dsimp only at h
        refine lv_if_ne (tgt := 69) hx hb dX12_not_64 (by decide) (fun c1011 => ?_) (fun c1011 => ?_)
        · have h := h.1 c1011
          exact blk69   r1005 _ _ _ _ hW (lv_sub hl [1, 0] rfl) h
        · have h := h.2 c1011
          refine lv_iload_n hx hb dX12_not_67 rfl (lv_at hl 0 rfl) ?_
          exact kr _ _ _ _ _ _ hW h dX12_not_68
    · have h := h.2 c1003
      refine lv_aload_n hx hb dX12_not_10 rfl (lv_at hl 0 rfl) ?_
      refine x_calli (va_runV (As := []) (rest := []) ⟨hx, hb, hml, hown, hts⟩ (J_X12_opens l hI h) (cwV 0 hts gX12_not_X12_opens rfl rfl rfl hdV_X12_opens ⟨rmgR_of d (Nat.le_of_ble_eq_true rfl), rmgR_ol d (Nat.le_of_ble_eq_true rfl)⟩) (x_preV (ci := 12) hK hZ hA hW (hI 0 (by decide)) lR_0 rfl) rfl rfl hl.1 rfl (lv_room (Nat.le_of_ble_eq_true rfl)) dX12_not_11 ⟨Nat.zero_le _, Nat.zero_le _⟩) hW hA (fun r1013 σ1012 H locs h hW => ?_)
      try dsimp only at h
      refine lv_if_ne (tgt := 19) hx hb dX12_not_14 (by decide) (fun c1014 => ?_) (fun c1014 => ?_)
      · have h := h.1 c1014
        refine lv_aload_n hx hb dX12_not_19 rfl (lv_at hl 0 rfl) ?_
        refine x_calli (va_runV (As := []) (rest := []) ⟨hx, hb, hml, hown, hts⟩ (hrec2 h) (cwV 0 hts gX12_not_X12_not rfl rfl rfl hdV_X12_not ⟨rmgR_f d, rmgR_l d (Nat.le_of_ble_eq_true rfl)⟩) (x_preV (ci := 12) hK hZ hA hW (hI 0 (by decide)) lR_0 rfl) rfl rfl hl.1 rfl (lv_room (Nat.le_of_ble_eq_true rfl)) dX12_not_20 ⟨Nat.zero_le _, Nat.zero_le _⟩) hW hA (fun r1016 σ1015 H locs h hW => ?_)
        try dsimp only at h
        refine lv_istore_n (lv' := [(1, .int r1016), (0, .ref (ad 0))]) hx hb dX12_not_23 rfl hl (by decide) rfl (fun ls hl => ?_)
        refine lv_aload_n hx hb dX12_not_24 rfl (lv_at hl 1 rfl) ?_
        refine lv_dup hx hb dX12_not_25 rfl ?_
        refine xgX12_42 hx hb hts hown hK hW 0 hcX12_not_X12 (hI 0 (by decide)) lR_0 (hts _ hwX12_not_3) dX12_not_26 ?_
        refine lv_iconst (v := 1) hx hb dX12_not_29 (by decide) ?_
        refine lv_isub hx hb dX12_not_30 ?_
        refine xpX12_42 hx hb hts hown hK hW 0 hcX12_not_X12 (hI 0 (by decide)) lR_0 (hts _ hwX12_not_3) dX12_not_31 (fun σ1017 H locs hσ1017 hW => ?_)
        have h := h σ1017 hσ1017
        refine lv_iload_n hx hb dX12_not_34 rfl (lv_at hl 0 rfl) ?_
        refine lv_if_ne (tgt := 42) hx hb dX12_not_35 (by decide) (fun c1018 => ?_) (fun c1018 => ?_)
        · have h := h.1 c1018
          refine lv_iconst (v := 0) hx hb dX12_not_42 (by decide) ?_
          exact blk43   (0 : Int32) _ _ _ _ hW (lv_sub hl [] rfl) h
        · have h := h.2 c1018
          refine lv_iconst (v := 1) hx hb dX12_not_38 (by decide) ?_
          refine lv_goto (tgt := 43) hx hb dX12_not_39 (by decide) ?_
          exact blk43   (1 : Int32) _ _ _ _ hW (lv_sub hl [] rfl) h
      · have h := h.2 c1014
        refine lv_iconst (v := 0) hx hb dX12_not_17 (by decide) ?_
        exact kr _ _ _ _ _ _ hW h dX12_not_18
  exact main _ _ _ hW hl
theorem hwX12_name_0 : (.constantLong RX12 332 (223456) : Cond) ∈ wsX12_name := (List.mem_cons_of_mem _ (List.mem_append_left _ (List.mem_append_left _ (List.mem_of_getElem? (i := 0) rfl))))
theorem hwX12_name_1 : (.constantLong RX12 341 (11055682) : Cond) ∈ wsX12_name := (List.mem_cons_of_mem _ (List.mem_append_left _ (List.mem_append_left _ (List.mem_of_getElem? (i := 2) rfl))))
theorem hwX12_name_2 : (.constantLong RX12 346 (465874) : Cond) ∈ wsX12_name := (List.mem_cons_of_mem _ (List.mem_append_left _ (List.mem_append_left _ (List.mem_of_getElem? (i := 4) rfl))))
theorem hwX12_name_3 : (.constantLong RX12 351 (247162) : Cond) ∈ wsX12_name := (List.mem_cons_of_mem _ (List.mem_append_left _ (List.mem_append_left _ (List.mem_of_getElem? (i := 6) rfl))))
theorem hwX12_name_4 : (.constantLong RX12 356 (381245) : Cond) ∈ wsX12_name := (List.mem_cons_of_mem _ (List.mem_append_left _ (List.mem_append_left _ (List.mem_of_getElem? (i := 8) rfl))))
theorem hwX12_name_5 : (.constantLong RX12 361 (4562587) : Cond) ∈ wsX12_name := (List.mem_cons_of_mem _ (List.mem_append_left _ (List.mem_append_left _ (List.mem_of_getElem? (i := 10) rfl))))
theorem hwX12_name_6 : (.fieldLink RX12 363 "FortyBeltsModel" "aboutHours" "I" : Cond) ∈ wsX12_name := (List.mem_cons_of_mem _ (List.mem_append_left _ (List.mem_append_left _ (List.mem_of_getElem? (i := 11) rfl))))
theorem hwX12_name_7 : (.fieldLink RX12 358 "FortyBeltsModel" "aboutSize" "I" : Cond) ∈ wsX12_name := (List.mem_cons_of_mem _ (List.mem_append_left _ (List.mem_append_left _ (List.mem_of_getElem? (i := 9) rfl))))
theorem hwX12_name_8 : (.fieldLink RX12 353 "FortyBeltsModel" "aboutLoad" "I" : Cond) ∈ wsX12_name := (List.mem_cons_of_mem _ (List.mem_append_left _ (List.mem_append_left _ (List.mem_of_getElem? (i := 7) rfl))))
theorem hwX12_name_9 : (.fieldLink RX12 348 "FortyBeltsModel" "aboutWrap" "I" : Cond) ∈ wsX12_name := (List.mem_cons_of_mem _ (List.mem_append_left _ (List.mem_append_left _ (List.mem_of_getElem? (i := 5) rfl))))
theorem hwX12_name_10 : (.fieldLink RX12 343 "FortyBeltsModel" "aboutTurns" "I" : Cond) ∈ wsX12_name := (List.mem_cons_of_mem _ (List.mem_append_left _ (List.mem_append_left _ (List.mem_of_getElem? (i := 3) rfl))))
theorem hwX12_name_11 : (.fieldLink RX12 338 "FortyBeltsModel" "aboutKind" "I" : Cond) ∈ wsX12_name := (List.mem_cons_of_mem _ (List.mem_append_left _ (List.mem_append_left _ (List.mem_of_getElem? (i := 1) rfl))))
theorem hcX12_name_X12 : ∀ w ∈ wsX120, w ∈ wsX12_name := fun _ h => (List.mem_cons_of_mem _ (List.mem_append_right _ h))
set_option maxHeartbeats 4000000 in
set_option maxRecDepth 100000 in
theorem J_X12_name {D : va_G} {KA : Nat → ClassId} {zs : ZS} {ad : Nat → Nat} {ids : List Nat} {sz : Nat} (l : Launch) (hI : ∀ c, c < 35 → c ∈ ids)   {σ : St} {post : Int32 → St → Prop} (h : wX12_name   σ post) : Met l yX12_name wsX12_name rmX12_name (va_Pc [.ref (ad 0)] (xIn D KA zs layR stR ad ids sz σ)) (va_Qi post (xOut D KA layR stR ad ids) (xA ad ids sz)) 0 0 (xA ad ids sz) := by
  refine Met.ofW (cc := cX12_name) (maxL := 1) (ret := (some .int)) (by decide) rfl ?_
  intro p e s m args below meth c s₁ B hml hv
  obtain ⟨hav, hsz, hK, hZ, hP, hD⟩ := hv
  have hx := B.exec
  have hb := B.bytes
  have hr := B.returns
  have hts := atoms_spec (ws := wsX12_name) B.pre
  have hown : s.vm.findClass RX12 = some m.cls := findClass_of_methodNamed B.named
  have hlocks := B.notSynchronized
  subst hsz
  have hA : ∀ q : Nat, s.heap.size ≤ q → xA ad ids s.heap.size q := fun q h => Or.inr h
  have hW : xW D KA layR stR ad ids (xA ad ids s.heap.size) s.heap σ s.heap [] := ⟨hP, xA_D (D := D) hD, va_S.rf⟩
  have kr : ∀ (v : Int32) (σ : St) (H : Heap) (locs : List Loc) (ls : Array Slot) (pc : Nat), xW D KA layR stR ad ids (xA ad ids s.heap.size) s.heap σ H locs → post v σ → decode cX12_name pc = .ok (.ireturn, 1) → W p l e rmX12_name s m args below meth c H locs 0 0 (MQ below (va_Qi post (xOut D KA layR stR ad ids) (xA ad ids s.heap.size)) args s 0 0 (xA ad ids s.heap.size)) (F0 m pc ls [.int v]) := fun v σ H locs ls pc hW h hd => x_iret hx hb hr hlocks hW h hd
  have hl := lv_entry ([.ref (ad 0)]) (n := 1) (Nat.le_of_ble_eq_true rfl)
  rw [show entryFrame m args 1 = entryFrame m ([.ref (ad 0)] : List Value).toArray 1 from by rw [hav]]
  rw [lg_entry_eq]
  generalize (lg_sl ([.ref (ad 0)]) ++ List.replicate (1 - (lg_sl ([.ref (ad 0)])).length) Slot.unset).toArray = ls at hl ⊢
  have hl : lv_has ls 1 [(0, .ref (ad 0))] := hl
  show W p l e rmX12_name s m args below meth c s.heap [] 0 0 _ _
  generalize MQ below (va_Qi post (xOut D KA layR stR ad ids) (xA ad ids s.heap.size)) args s 0 0 (xA ad ids s.heap.size) = Q at kr ⊢
  have main : ∀ (H : Heap) (locs : List Loc) (ls : Array Slot), xW D KA layR stR ad ids (xA ad ids s.heap.size) s.heap σ H locs → lv_has ls 1 [(0, .ref (ad 0))] → W p l e rmX12_name s m args below meth c H locs 0 0 Q (F0 m 0 ls []) := by
    intro H locs ls hW hl
    unfold wX12_name at h
    refine lv_aload_n hx hb dX12_name_0 rfl (lv_at hl 0 rfl) ?_
    refine lv_ldc2 hx hb hown (hts _ hwX12_name_0) dX12_name_1 ?_
    refine x_calli (va_runV (As := [.long (223456 : Int64)]) (rest := []) ⟨hx, hb, hml, hown, hts⟩ (J_X12_isWord l hI h) (cwV 1 hts gX12_name_X12_isWord rfl rfl rfl hdV_X12_isWord ⟨Nat.le_of_ble_eq_true rfl, Nat.le_of_ble_eq_true rfl⟩) (x_preV (ci := 12) hK hZ hA hW (hI 0 (by decide)) lR_0 rfl) rfl rfl hl.1 rfl (lv_room (Nat.le_of_ble_eq_true rfl)) dX12_name_4 ⟨Nat.zero_le _, Nat.zero_le _⟩) hW hA (fun r1002 σ1001 H locs h hW => ?_)
    try dsimp only at h
    refine lv_if_eq (tgt := 15) hx hb dX12_name_7 (by decide) (fun c1003 => ?_) (fun c1003 => ?_)
    · have h := h.1 c1003
      refine lv_aload_n hx hb dX12_name_15 rfl (lv_at hl 0 rfl) ?_
      refine lv_ldc2 hx hb hown (hts _ hwX12_name_1) dX12_name_16 ?_
      refine x_calli (va_runV (As := [.long (11055682 : Int64)]) (rest := []) ⟨hx, hb, hml, hown, hts⟩ (J_X12_isWord l hI h) (cwV 1 hts gX12_name_X12_isWord rfl rfl rfl hdV_X12_isWord ⟨Nat.le_of_ble_eq_true rfl, Nat.le_of_ble_eq_true rfl⟩) (x_preV (ci := 12) hK hZ hA hW (hI 0 (by decide)) lR_0 rfl) rfl rfl hl.1 rfl (lv_room (Nat.le_of_ble_eq_true rfl)) dX12_name_19 ⟨Nat.zero_le _, Nat.zero_le _⟩) hW hA (fun r1005 σ1004 H locs h hW => ?_)
      try dsimp only at h
      refine lv_if_eq (tgt := 30) hx hb dX12_name_22 (by decide) (fun c1006 => ?_) (fun c1006 => ?_)
      · have h := h.1 c1006
        refine lv_aload_n hx hb dX12_name_30 rfl (lv_at hl 0 rfl) ?_
        refine lv_ldc2 hx hb hown (hts _ hwX12_name_2) dX12_name_31 ?_
        refine x_calli (va_runV (As := [.long (465874 : Int64)]) (rest := []) ⟨hx, hb, hml, hown, hts⟩ (J_X12_isWord l hI h) (cwV 1 hts gX12_name_X12_isWord rfl rfl rfl hdV_X12_isWord ⟨Nat.le_of_ble_eq_true rfl, Nat.le_of_ble_eq_true rfl⟩) (x_preV (ci := 12) hK hZ hA hW (hI 0 (by decide)) lR_0 rfl) rfl rfl hl.1 rfl (lv_room (Nat.le_of_ble_eq_true rfl)) dX12_name_34 ⟨Nat.zero_le _, Nat.zero_le _⟩) hW hA (fun r1008 σ1007 H locs h hW => ?_)
        try dsimp only at h
        refine lv_if_eq (tgt := 45) hx hb dX12_name_37 (by decide) (fun c1009 => ?_) (fun c1009 => ?_)
        · have h := h.1 c1009
          refine lv_aload_n hx hb dX12_name_45 rfl (lv_at hl 0 rfl) ?_
          refine lv_ldc2 hx hb hown (hts _ hwX12_name_3) dX12_name_46 ?_
          refine x_calli (va_runV (As := [.long (247162 : Int64)]) (rest := []) ⟨hx, hb, hml, hown, hts⟩ (J_X12_isWord l hI h) (cwV 1 hts gX12_name_X12_isWord rfl rfl rfl hdV_X12_isWord ⟨Nat.le_of_ble_eq_true rfl, Nat.le_of_ble_eq_true rfl⟩) (x_preV (ci := 12) hK hZ hA hW (hI 0 (by decide)) lR_0 rfl) rfl rfl hl.1 rfl (lv_room (Nat.le_of_ble_eq_true rfl)) dX12_name_49 ⟨Nat.zero_le _, Nat.zero_le _⟩) hW hA (fun r1011 σ1010 H locs h hW => ?_)
          try dsimp only at h
          refine lv_if_eq (tgt := 60) hx hb dX12_name_52 (by decide) (fun c1012 => ?_) (fun c1012 => ?_)
          · have h := h.1 c1012
            refine lv_aload_n hx hb dX12_name_60 rfl (lv_at hl 0 rfl) ?_
            refine lv_ldc2 hx hb hown (hts _ hwX12_name_4) dX12_name_61 ?_
            refine x_calli (va_runV (As := [.long (381245 : Int64)]) (rest := []) ⟨hx, hb, hml, hown, hts⟩ (J_X12_isWord l hI h) (cwV 1 hts gX12_name_X12_isWord rfl rfl rfl hdV_X12_isWord ⟨Nat.le_of_ble_eq_true rfl, Nat.le_of_ble_eq_true rfl⟩) (x_preV (ci := 12) hK hZ hA hW (hI 0 (by decide)) lR_0 rfl) rfl rfl hl.1 rfl (lv_room (Nat.le_of_ble_eq_true rfl)) dX12_name_64 ⟨Nat.zero_le _, Nat.zero_le _⟩) hW hA (fun r1014 σ1013 H locs h hW => ?_)
            try dsimp only at h
            refine lv_if_eq (tgt := 75) hx hb dX12_name_67 (by decide) (fun c1015 => ?_) (fun c1015 => ?_)
            · have h := h.1 c1015
              refine lv_aload_n hx hb dX12_name_75 rfl (lv_at hl 0 rfl) ?_
              refine lv_ldc2 hx hb hown (hts _ hwX12_name_5) dX12_name_76 ?_
              refine x_calli (va_runV (As := [.long (4562587 : Int64)]) (rest := []) ⟨hx, hb, hml, hown, hts⟩ (J_X12_isWord l hI h) (cwV 1 hts gX12_name_X12_isWord rfl rfl rfl hdV_X12_isWord ⟨Nat.le_of_ble_eq_true rfl, Nat.le_of_ble_eq_true rfl⟩) (x_preV (ci := 12) hK hZ hA hW (hI 0 (by decide)) lR_0 rfl) rfl rfl hl.1 rfl (lv_room (Nat.le_of_ble_eq_true rfl)) dX12_name_79 ⟨Nat.zero_le _, Nat.zero_le _⟩) hW hA (fun r1017 σ1016 H locs h hW => ?_)
              try dsimp only at h
              refine lv_if_eq (tgt := 90) hx hb dX12_name_82 (by decide) (fun c1018 => ?_) (fun c1018 => ?_)
              · have h := h.1 c1018
                refine lv_aload_n hx hb dX12_name_90 rfl (lv_at hl 0 rfl) ?_
                refine x_callv (va_runV (As := []) (rest := []) ⟨hx, hb, hml, hown, hts⟩ (J_X12_fail l hI h) (cwV 0 hts gX12_name_X12_fail rfl rfl rfl hdV_X12_fail ⟨Nat.le_of_ble_eq_true rfl, Nat.le_of_ble_eq_true rfl⟩) (x_preV (ci := 12) hK hZ hA hW (hI 0 (by decide)) lR_0 rfl) rfl rfl hl.1 rfl (lv_room (Nat.le_of_ble_eq_true rfl)) dX12_name_91 ⟨Nat.zero_le _, Nat.zero_le _⟩) hW hA (fun σ1019 H locs h hW => ?_)
                try dsimp only at h
                refine lv_iconst (v := 0) hx hb dX12_name_94 (by decide) ?_
                exact kr _ _ _ _ _ _ hW h dX12_name_95
              · have h := h.2 c1018
                refine lv_aload_n hx hb dX12_name_85 rfl (lv_at hl 0 rfl) ?_
                refine xgX12_50 hx hb hts hown hK hW 0 hcX12_name_X12 (hI 0 (by decide)) lR_0 (hts _ hwX12_name_6) dX12_name_86 ?_
                exact kr _ _ _ _ _ _ hW h dX12_name_89
            · have h := h.2 c1015
              refine lv_aload_n hx hb dX12_name_70 rfl (lv_at hl 0 rfl) ?_
              refine xgX12_49 hx hb hts hown hK hW 0 hcX12_name_X12 (hI 0 (by decide)) lR_0 (hts _ hwX12_name_7) dX12_name_71 ?_
              exact kr _ _ _ _ _ _ hW h dX12_name_74
          · have h := h.2 c1012
            refine lv_aload_n hx hb dX12_name_55 rfl (lv_at hl 0 rfl) ?_
            refine xgX12_48 hx hb hts hown hK hW 0 hcX12_name_X12 (hI 0 (by decide)) lR_0 (hts _ hwX12_name_8) dX12_name_56 ?_
            exact kr _ _ _ _ _ _ hW h dX12_name_59
        · have h := h.2 c1009
          refine lv_aload_n hx hb dX12_name_40 rfl (lv_at hl 0 rfl) ?_
          refine xgX12_47 hx hb hts hown hK hW 0 hcX12_name_X12 (hI 0 (by decide)) lR_0 (hts _ hwX12_name_9) dX12_name_41 ?_
          exact kr _ _ _ _ _ _ hW h dX12_name_44
      · have h := h.2 c1006
        refine lv_aload_n hx hb dX12_name_25 rfl (lv_at hl 0 rfl) ?_
        refine xgX12_46 hx hb hts hown hK hW 0 hcX12_name_X12 (hI 0 (by decide)) lR_0 (hts _ hwX12_name_10) dX12_name_26 ?_
        exact kr _ _ _ _ _ _ hW h dX12_name_29
    · have h := h.2 c1003
      refine lv_aload_n hx hb dX12_name_10 rfl (lv_at hl 0 rfl) ?_
      refine xgX12_45 hx hb hts hown hK hW 0 hcX12_name_X12 (hI 0 (by decide)) lR_0 (hts _ hwX12_name_11) dX12_name_11 ?_
      exact kr _ _ _ _ _ _ hW h dX12_name_14
  exact main _ _ _ hW hl
theorem hwX12_one_0 : (.fieldLink RX12 316 "FortyBeltsModel" "bad" "Z" : Cond) ∈ wsX12_one := (List.mem_cons_of_mem _ (List.mem_append_left _ (List.mem_append_left _ (List.mem_of_getElem? (i := 1) rfl))))
theorem hwX12_one_1 : (.fieldLink RX12 293 "FortyBeltsModel" "token" "I" : Cond) ∈ wsX12_one := (List.mem_cons_of_mem _ (List.mem_append_left _ (List.mem_append_left _ (List.mem_of_getElem? (i := 2) rfl))))
theorem hwX12_one_2 : (.fieldLink RX12 323 "FortyBeltsModel" "open" "I" : Cond) ∈ wsX12_one := (List.mem_cons_of_mem _ (List.mem_append_left _ (List.mem_append_left _ (List.mem_of_getElem? (i := 0) rfl))))
theorem hwX12_one_3 : (.fieldLink RX12 300 "FortyBeltsModel" "tokenWorth" "J" : Cond) ∈ wsX12_one := (List.mem_cons_of_mem _ (List.mem_append_left _ (List.mem_append_left _ (List.mem_of_getElem? (i := 3) rfl))))
theorem hcX12_one_X12 : ∀ w ∈ wsX120, w ∈ wsX12_one := fun _ h => (List.mem_cons_of_mem _ (List.mem_append_right _ h))
set_option maxHeartbeats 4000000 in
set_option maxRecDepth 100000 in
theorem JO_X12_one {D : va_G} {KA : Nat → ClassId} {zs : ZS} {ad : Nat → Nat} {ids : List Nat} {sz : Nat} (l : Launch) (hI : ∀ c, c < 35 → c ∈ ids) (d : Nat) {rec : Nat → St → (Int32 → St → Prop) → Prop} (hrec0 : ∀ {σ : St} {post : Int32 → St → Prop} {sz : Nat}, rec 0  σ post → Met l yX12_either wsX12_either (rmgR d) (va_Pc [.ref (ad 0)] (xIn D KA zs layR stR ad ids sz σ)) (va_Qi post (xOut D KA layR stR ad ids) (xA ad ids sz)) 0 0 (xA ad ids sz)) (hrec1 : ∀ {σ : St} {post : Int32 → St → Prop} {sz : Nat}, rec 1  σ post → Met l yX12_both wsX12_both (rmgR d) (va_Pc [.ref (ad 0)] (xIn D KA zs layR stR ad ids sz σ)) (va_Qi post (xOut D KA layR stR ad ids) (xA ad ids sz)) 0 0 (xA ad ids sz)) (hrec2 : ∀ {σ : St} {post : Int32 → St → Prop} {sz : Nat}, rec 2  σ post → Met l yX12_not wsX12_not (rmgR d) (va_Pc [.ref (ad 0)] (xIn D KA zs layR stR ad ids sz σ)) (va_Qi post (xOut D KA layR stR ad ids) (xA ad ids sz)) 0 0 (xA ad ids sz)) (hrec3 : ∀ {σ : St} {post : Int32 → St → Prop} {sz : Nat}, rec 3  σ post → Met l yX12_added wsX12_added (rmgR d) (va_Pc [.ref (ad 0)] (xIn D KA zs layR stR ad ids sz σ)) (va_Qi post (xOut D KA layR stR ad ids) (xA ad ids sz)) 0 0 (xA ad ids sz)) (hrec4 : ∀ {σ : St} {post : Int32 → St → Prop} {sz : Nat}, rec 4  σ post → Met l yX12_term wsX12_term (rmgR d) (va_Pc [.ref (ad 0)] (xIn D KA zs layR stR ad ids sz σ)) (va_Qi post (xOut D KA layR stR ad ids) (xA ad ids sz)) 0 0 (xA ad ids sz)) (hrec5 : ∀ {σ : St} {post : Int32 → St → Prop} {sz : Nat}, rec 5  σ post → Met l yX12_one wsX12_one (rmgR d) (va_Pc [.ref (ad 0)] (xIn D KA zs layR stR ad ids sz σ)) (va_Qi post (xOut D KA layR stR ad ids) (xA ad ids sz)) 0 0 (xA ad ids sz))   {σ : St} {post : Int32 → St → Prop} (h : wX12_one rec  σ post) : Met l yX12_one wsX12_one (rmgR (d + 1)) (va_Pc [.ref (ad 0)] (xIn D KA zs layR stR ad ids sz σ)) (va_Qi post (xOut D KA layR stR ad ids) (xA ad ids sz)) 0 0 (xA ad ids sz) := by
  refine Met.ofW (cc := cX12_one) (maxL := 2) (ret := (some .int)) (by decide) rfl ?_
  intro p e s m args below meth c s₁ B hml hv
  obtain ⟨hav, hsz, hK, hZ, hP, hD⟩ := hv
  have hx := B.exec
  have hb := B.bytes
  have hr := B.returns
  have hts := atoms_spec (ws := wsX12_one) B.pre
  have hown : s.vm.findClass RX12 = some m.cls := findClass_of_methodNamed B.named
  have hlocks := B.notSynchronized
  subst hsz
  have hA : ∀ q : Nat, s.heap.size ≤ q → xA ad ids s.heap.size q := fun q h => Or.inr h
  have hW : xW D KA layR stR ad ids (xA ad ids s.heap.size) s.heap σ s.heap [] := ⟨hP, xA_D (D := D) hD, va_S.rf⟩
  have kr : ∀ (v : Int32) (σ : St) (H : Heap) (locs : List Loc) (ls : Array Slot) (pc : Nat), xW D KA layR stR ad ids (xA ad ids s.heap.size) s.heap σ H locs → post v σ → decode cX12_one pc = .ok (.ireturn, 1) → W p l e (rmgR (d + 1)) s m args below meth c H locs 0 0 (MQ below (va_Qi post (xOut D KA layR stR ad ids) (xA ad ids s.heap.size)) args s 0 0 (xA ad ids s.heap.size)) (F0 m pc ls [.int v]) := fun v σ H locs ls pc hW h hd => x_iret hx hb hr hlocks hW h hd
  have hl := lv_entry ([.ref (ad 0)]) (n := 2) (Nat.le_of_ble_eq_true rfl)
  rw [show entryFrame m args 2 = entryFrame m ([.ref (ad 0)] : List Value).toArray 2 from by rw [hav]]
  rw [lg_entry_eq]
  generalize (lg_sl ([.ref (ad 0)]) ++ List.replicate (2 - (lg_sl ([.ref (ad 0)])).length) Slot.unset).toArray = ls at hl ⊢
  have hl : lv_has ls 2 [(0, .ref (ad 0))] := hl
  show W p l e (rmgR (d + 1)) s m args below meth c s.heap [] 0 0 _ _
  generalize MQ below (va_Qi post (xOut D KA layR stR ad ids) (xA ad ids s.heap.size)) args s 0 0 (xA ad ids s.heap.size) = Q at kr ⊢
  have blk161 : ∀ (x1 : Int32) (σ : St) (H : Heap) (locs : List Loc) (ls : Array Slot), xW D KA layR stR ad ids (xA ad ids s.heap.size) s.heap σ H locs → lv_has ls 2 [(1, .int x1)] → wX12_one_161 rec post x1 σ → W p l e (rmgR (d + 1)) s m args below meth c H locs 0 0 Q (F0 m 161 ls []) := by
    intro   x1 σ H locs ls hW hl h
    unfold wX12_one_161 at h
    refine lv_iload_n hx hb dX12_one_161 rfl (lv_at hl 0 rfl) ?_
    exact kr _ _ _ _ _ _ hW h dX12_one_162
  have blk157 : ∀ (x1 : Int32) (σ : St) (H : Heap) (locs : List Loc) (ls : Array Slot), xW D KA layR stR ad ids (xA ad ids s.heap.size) s.heap σ H locs → lv_has ls 2 [(0, .ref (ad 0)), (1, .int x1)] → wX12_one_157 rec post x1 σ → W p l e (rmgR (d + 1)) s m args below meth c H locs 0 0 Q (F0 m 157 ls []) := by
    intro   x1 σ H locs ls hW hl h
    unfold wX12_one_157 at h
    refine lv_aload_n hx hb dX12_one_157 rfl (lv_at hl 0 rfl) ?_
    refine x_callv (va_runV (As := []) (rest := []) ⟨hx, hb, hml, hown, hts⟩ (J_X12_fail l hI h) (cwV 0 hts gX12_one_X12_fail rfl rfl rfl hdV_X12_fail ⟨rmgR_of d (Nat.le_of_ble_eq_true rfl), rmgR_ol d (Nat.le_of_ble_eq_true rfl)⟩) (x_preV (ci := 12) hK hZ hA hW (hI 0 (by decide)) lR_0 rfl) rfl rfl hl.1 rfl (lv_room (Nat.le_of_ble_eq_true rfl)) dX12_one_158 ⟨Nat.zero_le _, Nat.zero_le _⟩) hW hA (fun σ1 H locs h hW => ?_)
    try dsimp only at h
    exact blk161   x1 _ _ _ _ hW (lv_sub hl [1] rfl) h
  have blk123 : ∀ (x1 : Int32) (σ : St) (H : Heap) (locs : List Loc) (ls : Array Slot), xW D KA layR stR ad ids (xA ad ids s.heap.size) s.heap σ H locs → lv_has ls 2 [(0, .ref (ad 0)), (1, .int x1)] → wX12_one_123 rec post x1 σ → W p l e (rmgR (d + 1)) s m args below meth c H locs 0 0 Q (F0 m 123 ls []) := by
    intro   x1 σ H locs ls hW hl h
    unfold wX12_one_123 at h
    refine lv_aload_n hx hb dX12_one_123 rfl (lv_at hl 0 rfl) ?_
    refine xgX12_43 hx hb hts hown hK hW 0 hcX12_one_X12 (hI 0 (by decide)) lR_0 (hts _ hwX12_one_0) dX12_one_124 ?_
    refine lv_if_ne (tgt := 157) hx hb dX12_one_127 (by decide) (fun c2 => ?_) (fun c2 => ?_)
    · have h := h.1 c2
      exact blk157   x1 _ _ _ _ hW (lv_sub hl [0, 1] rfl) h
    · have h := h.2 c2
      refine lv_aload_n hx hb dX12_one_130 rfl (lv_at hl 0 rfl) ?_
      refine xgX12_38 hx hb hts hown hK hW 0 hcX12_one_X12 (hI 0 (by decide)) lR_0 (hts _ hwX12_one_1) dX12_one_131 ?_
      refine lv_iconst (v := 1) hx hb dX12_one_134 (by decide) ?_
      refine lv_icmp_ne (tgt := 157) hx hb dX12_one_135 (by decide) (fun c3 => ?_) (fun c3 => ?_)
      · have h := h.1 c3
        exact blk157   x1 _ _ _ _ hW (lv_sub hl [0, 1] rfl) h
      · have h := h.2 c3
        refine lv_aload_n hx hb dX12_one_138 rfl (lv_at hl 0 rfl) ?_
        refine x_calli (va_runV (As := []) (rest := []) ⟨hx, hb, hml, hown, hts⟩ (J_X12_name l hI h) (cwV 0 hts gX12_one_X12_name rfl rfl rfl hdV_X12_name ⟨rmgR_of d (Nat.le_of_ble_eq_true rfl), rmgR_ol d (Nat.le_of_ble_eq_true rfl)⟩) (x_preV (ci := 12) hK hZ hA hW (hI 0 (by decide)) lR_0 rfl) rfl rfl hl.1 rfl (lv_room (Nat.le_of_ble_eq_true rfl)) dX12_one_139 ⟨Nat.zero_le _, Nat.zero_le _⟩) hW hA (fun r5 σ4 H locs h hW => ?_)
        try dsimp only at h
        refine lv_istore_n (lv' := [(1, .int r5), (0, .ref (ad 0))]) hx hb dX12_one_142 rfl hl (by decide) rfl (fun ls hl => ?_)
        refine lv_aload_n hx hb dX12_one_143 rfl (lv_at hl 1 rfl) ?_
        refine xgX12_43 hx hb hts hown hK hW 0 hcX12_one_X12 (hI 0 (by decide)) lR_0 (hts _ hwX12_one_0) dX12_one_144 ?_
        refine lv_if_ne (tgt := 161) hx hb dX12_one_147 (by decide) (fun c6 => ?_) (fun c6 => ?_)
        · have h := h.1 c6
          exact blk161   r5 _ _ _ _ hW (lv_sub hl [0] rfl) h
        · have h := h.2 c6
          refine lv_aload_n hx hb dX12_one_150 rfl (lv_at hl 1 rfl) ?_
          refine x_callv (va_runV (As := []) (rest := []) ⟨hx, hb, hml, hown, hts⟩ (J_X12_next l hI h) (cwV 0 hts gX12_one_X12_next rfl rfl rfl hdV_X12_next ⟨rmgR_of d (Nat.le_of_ble_eq_true rfl), rmgR_ol d (Nat.le_of_ble_eq_true rfl)⟩) (x_preV (ci := 12) hK hZ hA hW (hI 0 (by decide)) lR_0 rfl) rfl rfl hl.1 rfl (lv_room (Nat.le_of_ble_eq_true rfl)) dX12_one_151 ⟨Nat.zero_le _, Nat.zero_le _⟩) hW hA (fun σ7 H locs h hW => ?_)
          try dsimp only at h
          refine lv_goto (tgt := 161) hx hb dX12_one_154 (by decide) ?_
          exact blk161   r5 _ _ _ _ hW (lv_sub hl [0] rfl) h
  have blk71 : ∀ (x1 : Int32) (σ : St) (H : Heap) (locs : List Loc) (ls : Array Slot), xW D KA layR stR ad ids (xA ad ids s.heap.size) s.heap σ H locs → lv_has ls 2 [(0, .ref (ad 0)), (1, .int x1)] → wX12_one_71 rec post x1 σ → W p l e (rmgR (d + 1)) s m args below meth c H locs 0 0 Q (F0 m 71 ls []) := by
    intro   x1 σ H locs ls hW hl h
    unfold wX12_one_71 at h
    refine lv_aload_n hx hb dX12_one_71 rfl (lv_at hl 0 rfl) ?_
    refine lv_dup hx hb dX12_one_72 rfl ?_
    refine xgX12_42 hx hb hts hown hK hW 0 hcX12_one_X12 (hI 0 (by decide)) lR_0 (hts _ hwX12_one_2) dX12_one_73 ?_
    refine lv_iconst (v := 1) hx hb dX12_one_76 (by decide) ?_
    refine lv_isub hx hb dX12_one_77 ?_
    refine xpX12_42 hx hb hts hown hK hW 0 hcX12_one_X12 (hI 0 (by decide)) lR_0 (hts _ hwX12_one_2) dX12_one_78 (fun σ8 H locs hσ8 hW => ?_)
    have h := h σ8 hσ8
    refine lv_aload_n hx hb dX12_one_81 rfl (lv_at hl 0 rfl) ?_
    refine xgX12_43 hx hb hts hown hK hW 0 hcX12_one_X12 (hI 0 (by decide)) lR_0 (hts _ hwX12_one_0) dX12_one_82 ?_
    refine lv_if_ne (tgt := 161) hx hb dX12_one_85 (by decide) (fun c9 => ?_) (fun c9 => ?_)
    · have h := h.1 c9
      exact blk161   x1 _ _ _ _ hW (lv_sub hl [1] rfl) h
    · have h := h.2 c9
      refine lv_aload_n hx hb dX12_one_88 rfl (lv_at hl 0 rfl) ?_
      refine x_callv (va_runV (As := []) (rest := []) ⟨hx, hb, hml, hown, hts⟩ (J_X12_next l hI h) (cwV 0 hts gX12_one_X12_next rfl rfl rfl hdV_X12_next ⟨rmgR_of d (Nat.le_of_ble_eq_true rfl), rmgR_ol d (Nat.le_of_ble_eq_true rfl)⟩) (x_preV (ci := 12) hK hZ hA hW (hI 0 (by decide)) lR_0 rfl) rfl rfl hl.1 rfl (lv_room (Nat.le_of_ble_eq_true rfl)) dX12_one_89 ⟨Nat.zero_le _, Nat.zero_le _⟩) hW hA (fun σ10 H locs h hW => ?_)
      try dsimp only at h
      refine lv_goto (tgt := 161) hx hb dX12_one_92 (by decide) ?_
      exact blk161   x1 _ _ _ _ hW (lv_sub hl [1] rfl) h
  have main : ∀ (H : Heap) (locs : List Loc) (ls : Array Slot), xW D KA layR stR ad ids (xA ad ids s.heap.size) s.heap σ H locs → lv_has ls 2 [(0, .ref (ad 0))] → W p l e (rmgR (d + 1)) s m args below meth c H locs 0 0 Q (F0 m 0 ls []) := by
    intro H locs ls hW hl
    unfold wX12_one at h
    refine lv_iconst (v := 0) hx hb dX12_one_0 (by decide) ?_
    refine lv_istore_n (lv' := [(1, .int (0 : Int32)), (0, .ref (ad 0))]) hx hb dX12_one_1 rfl hl (by decide) rfl (fun ls hl => ?_)
    refine lv_aload_n hx hb dX12_one_2 rfl (lv_at hl 1 rfl) ?_
    refine lv_bipush (v := 45) hx hb dX12_one_3 (by decide) ?_
    refine x_calli (va_runV (As := [.int (45 : Int32)]) (rest := []) ⟨hx, hb, hml, hown, hts⟩ (J_X12_isSign l hI h) (cwV 1 hts gX12_one_X12_isSign rfl rfl rfl hdV_X12_isSign ⟨rmgR_of d (Nat.le_of_ble_eq_true rfl), rmgR_ol d (Nat.le_of_ble_eq_true rfl)⟩) (x_preV (ci := 12) hK hZ hA hW (hI 0 (by decide)) lR_0 rfl) rfl rfl hl.1 rfl (lv_room (Nat.le_of_ble_eq_true rfl)) dX12_one_5 ⟨Nat.zero_le _, Nat.zero_le _⟩) hW hA (fun r1002 σ1001 H locs h hW => ?_)
    try dsimp only at h
    refine lv_if_eq (tgt := 37) hx hb dX12_one_8 (by decide) (fun c1003 => ?_) (fun c1003 => ?_)
    · have h := h.1 c1003
      refine lv_aload_n hx hb dX12_one_37 rfl (lv_at hl 1 rfl) ?_
      refine lv_bipush (v := 40) hx hb dX12_one_38 (by decide) ?_
      refine x_calli (va_runV (As := [.int (40 : Int32)]) (rest := []) ⟨hx, hb, hml, hown, hts⟩ (J_X12_isSign l hI h) (cwV 1 hts gX12_one_X12_isSign rfl rfl rfl hdV_X12_isSign ⟨rmgR_of d (Nat.le_of_ble_eq_true rfl), rmgR_ol d (Nat.le_of_ble_eq_true rfl)⟩) (x_preV (ci := 12) hK hZ hA hW (hI 0 (by decide)) lR_0 rfl) rfl rfl hl.1 rfl (lv_room (Nat.le_of_ble_eq_true rfl)) dX12_one_40 ⟨Nat.zero_le _, Nat.zero_le _⟩) hW hA (fun r1005 σ1004 H locs h hW => ?_)
      try dsimp only at h
      refine lv_if_eq (tgt := 95) hx hb dX12_one_43 (by decide) (fun c1006 => ?_) (fun c1006 => ?_)
      · have h := h.1 c1006
        refine lv_aload_n hx hb dX12_one_95 rfl (lv_at hl 1 rfl) ?_
        refine xgX12_43 hx hb hts hown hK hW 0 hcX12_one_X12 (hI 0 (by decide)) lR_0 (hts _ hwX12_one_0) dX12_one_96 ?_
        refine lv_if_ne (tgt := 123) hx hb dX12_one_99 (by decide) (fun c1007 => ?_) (fun c1007 => ?_)
        · have h := h.1 c1007
          exact blk123   (0 : Int32) _ _ _ _ hW (lv_sub hl [1, 0] rfl) h
        · have h := h.2 c1007
          refine lv_aload_n hx hb dX12_one_102 rfl (lv_at hl 1 rfl) ?_
          refine xgX12_38 hx hb hts hown hK hW 0 hcX12_one_X12 (hI 0 (by decide)) lR_0 (hts _ hwX12_one_1) dX12_one_103 ?_
          refine lv_iconst (v := 2) hx hb dX12_one_106 (by decide) ?_
          refine lv_icmp_ne (tgt := 123) hx hb dX12_one_107 (by decide) (fun c1008 => ?_) (fun c1008 => ?_)
          · have h := h.1 c1008
            exact blk123   (0 : Int32) _ _ _ _ hW (lv_sub hl [1, 0] rfl) h
          · have h := h.2 c1008
            refine lv_aload_n hx hb dX12_one_110 rfl (lv_at hl 1 rfl) ?_
            refine xgX12_40 hx hb hts hown hK hW 0 hcX12_one_X12 (hI 0 (by decide)) lR_0 (hts _ hwX12_one_3) dX12_one_111 ?_
            refine lv_l2i hx hb dX12_one_114 rfl ?_
            refine lv_topi (fun v1009 hv1009 => ?_)
            have h := h v1009 hv1009
            refine lv_istore_n (lv' := [(1, .int v1009), (0, .ref (ad 0))]) hx hb dX12_one_115 rfl hl (by decide) rfl (fun ls hl => ?_)
            refine lv_aload_n hx hb dX12_one_116 rfl (lv_at hl 1 rfl) ?_
            refine x_callv (va_runV (As := []) (rest := []) ⟨hx, hb, hml, hown, hts⟩ (J_X12_next l hI h) (cwV 0 hts gX12_one_X12_next rfl rfl rfl hdV_X12_next ⟨rmgR_of d (Nat.le_of_ble_eq_true rfl), rmgR_ol d (Nat.le_of_ble_eq_true rfl)⟩) (x_preV (ci := 12) hK hZ hA hW (hI 0 (by decide)) lR_0 rfl) rfl rfl hl.1 rfl (lv_room (Nat.le_of_ble_eq_true rfl)) dX12_one_117 ⟨Nat.zero_le _, Nat.zero_le _⟩) hW hA (fun σ1010 H locs h hW => ?_)
            try dsimp only at h
            refine lv_goto (tgt := 161) hx hb dX12_one_120 (by decide) ?_
            exact blk161   v1009 _ _ _ _ hW (lv_sub hl [0] rfl) h
      · have h := h.2 c1006
        refine lv_aload_n hx hb dX12_one_46 rfl (lv_at hl 1 rfl) ?_
        refine x_calli (va_runV (As := []) (rest := []) ⟨hx, hb, hml, hown, hts⟩ (J_X12_opens l hI h) (cwV 0 hts gX12_one_X12_opens rfl rfl rfl hdV_X12_opens ⟨rmgR_of d (Nat.le_of_ble_eq_true rfl), rmgR_ol d (Nat.le_of_ble_eq_true rfl)⟩) (x_preV (ci := 12) hK hZ hA hW (hI 0 (by decide)) lR_0 rfl) rfl rfl hl.1 rfl (lv_room (Nat.le_of_ble_eq_true rfl)) dX12_one_47 ⟨Nat.zero_le _, Nat.zero_le _⟩) hW hA (fun r1012 σ1011 H locs h hW => ?_)
        try dsimp only at h
        refine lv_if_eq (tgt := 161) hx hb dX12_one_50 (by decide) (fun c1013 => ?_) (fun c1013 => ?_)
        · have h := h.1 c1013
          exact blk161   (0 : Int32) _ _ _ _ hW (lv_sub hl [0] rfl) h
        · have h := h.2 c1013
          refine lv_aload_n hx hb dX12_one_53 rfl (lv_at hl 1 rfl) ?_
          refine x_calli (va_runV (As := []) (rest := []) ⟨hx, hb, hml, hown, hts⟩ (hrec0 h) (cwV 0 hts gX12_one_X12_either rfl rfl rfl hdV_X12_either ⟨rmgR_f d, rmgR_l d (Nat.le_of_ble_eq_true rfl)⟩) (x_preV (ci := 12) hK hZ hA hW (hI 0 (by decide)) lR_0 rfl) rfl rfl hl.1 rfl (lv_room (Nat.le_of_ble_eq_true rfl)) dX12_one_54 ⟨Nat.zero_le _, Nat.zero_le _⟩) hW hA (fun r1015 σ1014 H locs h hW => ?_)
          try dsimp only at h
          refine lv_istore_n (lv' := [(1, .int r1015), (0, .ref (ad 0))]) hx hb dX12_one_57 rfl hl (by decide) rfl (fun ls hl => ?_)
          refine lv_aload_n hx hb dX12_one_58 rfl (lv_at hl 1 rfl) ?_
          refine lv_bipush (v := 41) hx hb dX12_one_59 (by decide) ?_
          refine x_calli (va_runV (As := [.int (41 : Int32)]) (rest := []) ⟨hx, hb, hml, hown, hts⟩ (J_X12_isSign l hI h) (cwV 1 hts gX12_one_X12_isSign rfl rfl rfl hdV_X12_isSign ⟨rmgR_of d (Nat.le_of_ble_eq_true rfl), rmgR_ol d (Nat.le_of_ble_eq_true rfl)⟩) (x_preV (ci := 12) hK hZ hA hW (hI 0 (by decide)) lR_0 rfl) rfl rfl hl.1 rfl (lv_room (Nat.le_of_ble_eq_true rfl)) dX12_one_61 ⟨Nat.zero_le _, Nat.zero_le _⟩) hW hA (fun r1017 σ1016 H locs h hW => ?_)
          try dsimp only at h
          refine lv_if_ne (tgt := 71) hx hb dX12_one_64 (by decide) (fun c1018 => ?_) (fun c1018 => ?_)
          · have h := h.1 c1018
            exact blk71   r1015 _ _ _ _ hW (lv_sub hl [1, 0] rfl) h
          · have h := h.2 c1018
            refine lv_aload_n hx hb dX12_one_67 rfl (lv_at hl 1 rfl) ?_
            refine x_callv (va_runV (As := []) (rest := []) ⟨hx, hb, hml, hown, hts⟩ (J_X12_fail l hI h) (cwV 0 hts gX12_one_X12_fail rfl rfl rfl hdV_X12_fail ⟨rmgR_of d (Nat.le_of_ble_eq_true rfl), rmgR_ol d (Nat.le_of_ble_eq_true rfl)⟩) (x_preV (ci := 12) hK hZ hA hW (hI 0 (by decide)) lR_0 rfl) rfl rfl hl.1 rfl (lv_room (Nat.le_of_ble_eq_true rfl)) dX12_one_68 ⟨Nat.zero_le _, Nat.zero_le _⟩) hW hA (fun σ1019 H locs h hW => ?_)
            try dsimp only at h
            exact blk71   r1015 _ _ _ _ hW (lv_sub hl [1, 0] rfl) h
    · have h := h.2 c1003
      refine lv_aload_n hx hb dX12_one_11 rfl (lv_at hl 1 rfl) ?_
      refine x_calli (va_runV (As := []) (rest := []) ⟨hx, hb, hml, hown, hts⟩ (J_X12_opens l hI h) (cwV 0 hts gX12_one_X12_opens rfl rfl rfl hdV_X12_opens ⟨rmgR_of d (Nat.le_of_ble_eq_true rfl), rmgR_ol d (Nat.le_of_ble_eq_true rfl)⟩) (x_preV (ci := 12) hK hZ hA hW (hI 0 (by decide)) lR_0 rfl) rfl rfl hl.1 rfl (lv_room (Nat.le_of_ble_eq_true rfl)) dX12_one_12 ⟨Nat.zero_le _, Nat.zero_le _⟩) hW hA (fun r1021 σ1020 H locs h hW => ?_)
      try dsimp only at h
      refine lv_if_eq (tgt := 161) hx hb dX12_one_15 (by decide) (fun c1022 => ?_) (fun c1022 => ?_)
      · have h := h.1 c1022
        exact blk161   (0 : Int32) _ _ _ _ hW (lv_sub hl [0] rfl) h
      · have h := h.2 c1022
        refine lv_aload_n hx hb dX12_one_18 rfl (lv_at hl 1 rfl) ?_
        refine x_calli (va_runV (As := []) (rest := []) ⟨hx, hb, hml, hown, hts⟩ (hrec5 h) (cwV 0 hts gX12_one_X12_one rfl rfl rfl hdV_X12_one ⟨rmgR_f d, rmgR_l d (Nat.le_of_ble_eq_true rfl)⟩) (x_preV (ci := 12) hK hZ hA hW (hI 0 (by decide)) lR_0 rfl) rfl rfl hl.1 rfl (lv_room (Nat.le_of_ble_eq_true rfl)) dX12_one_19 ⟨Nat.zero_le _, Nat.zero_le _⟩) hW hA (fun r1024 σ1023 H locs h hW => ?_)
        try dsimp only at h
        refine lv_ineg hx hb dX12_one_22 ?_
        refine lv_topi (fun v1025 hv1025 => ?_)
        have h := h v1025 hv1025
        refine lv_istore_n (lv' := [(1, .int v1025), (0, .ref (ad 0))]) hx hb dX12_one_23 rfl hl (by decide) rfl (fun ls hl => ?_)
        refine lv_aload_n hx hb dX12_one_24 rfl (lv_at hl 1 rfl) ?_
        refine lv_dup hx hb dX12_one_25 rfl ?_
        refine xgX12_42 hx hb hts hown hK hW 0 hcX12_one_X12 (hI 0 (by decide)) lR_0 (hts _ hwX12_one_2) dX12_one_26 ?_
        refine lv_iconst (v := 1) hx hb dX12_one_29 (by decide) ?_
        refine lv_isub hx hb dX12_one_30 ?_
        refine xpX12_42 hx hb hts hown hK hW 0 hcX12_one_X12 (hI 0 (by decide)) lR_0 (hts _ hwX12_one_2) dX12_one_31 (fun σ1026 H locs hσ1026 hW => ?_)
        have h := h σ1026 hσ1026
        refine lv_goto (tgt := 161) hx hb dX12_one_34 (by decide) ?_
        exact blk161   v1025 _ _ _ _ hW (lv_sub hl [0] rfl) h
  exact main _ _ _ hW hl
