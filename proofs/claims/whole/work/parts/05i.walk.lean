theorem hwX11_set_0 : (.fieldLink RX11 117 "FortyBelts$Machine" "on" "Z" : Cond) ∈ wsX11_set := (List.mem_cons_of_mem _ (List.mem_append_left _ (List.mem_append_left _ (List.mem_append_left _ (List.mem_of_getElem? (i := 4) rfl)))))
theorem hwX11_set_1 : (.fieldLink RX11 103 "FortyBelts$Machine" "hours" "I" : Cond) ∈ wsX11_set := (List.mem_cons_of_mem _ (List.mem_append_left _ (List.mem_append_left _ (List.mem_append_left _ (List.mem_of_getElem? (i := 3) rfl)))))
theorem hwX11_set_2 : (.fieldLink RX11 10 "FortyBelts" "mill" "LFortyBelts$Mill;" : Cond) ∈ wsX11_set := (List.mem_cons_of_mem _ (List.mem_append_left _ (List.mem_append_left _ (List.mem_append_left _ (List.mem_of_getElem? (i := 0) rfl)))))
theorem hwX11_set_3 : (.fieldLink RX11 113 "FortyBelts$Mill" "machines" "[LFortyBelts$Machine;" : Cond) ∈ wsX11_set := (List.mem_cons_of_mem _ (List.mem_append_left _ (List.mem_append_left _ (List.mem_append_left _ (List.mem_of_getElem? (i := 1) rfl)))))
theorem hwX11_set_4 : (.fieldLink RX11 100 "FortyBelts$Machine" "load" "I" : Cond) ∈ wsX11_set := (List.mem_cons_of_mem _ (List.mem_append_left _ (List.mem_append_left _ (List.mem_append_left _ (List.mem_of_getElem? (i := 2) rfl)))))
theorem hcX11_set_X5 : ∀ w ∈ wsX50, w ∈ wsX11_set := fun _ h => (List.mem_cons_of_mem _ (List.mem_append_right _ h))
theorem hcX11_set_X11 : ∀ w ∈ wsX110, w ∈ wsX11_set := fun _ h => (List.mem_cons_of_mem _ (List.mem_append_left _ (List.mem_append_left _ (List.mem_append_right _ h))))
theorem hcX11_set_X6 : ∀ w ∈ wsX60, w ∈ wsX11_set := fun _ h => (List.mem_cons_of_mem _ (List.mem_append_left _ (List.mem_append_right _ h)))
set_option maxHeartbeats 4000000 in
set_option maxRecDepth 100000 in
theorem J_X11_set {D : va_G} {KA : Nat → ClassId} {zs : ZS} {ad : Nat → Nat} {ids : List Nat} {sz : Nat} (l : Launch) (hI : ∀ c, c < 52 ∧ ¬ c = 19 → c ∈ ids) {a1 : Int32} {a2 : Int32} {a3 : Int32}  {σ : St} {post : Int32 → St → Prop} (h : wX11_set ids a1 a2 a3 σ post) : Met l yX11_set wsX11_set rmX11_set (va_Pc [.ref (ad 0), .int a1, .int a2, .int a3] (xIn D KA zs layX stX ad ids sz σ)) (va_Qi post (xOut D KA layX stX ad ids) (xA ad ids sz)) 0 0 (xA ad ids sz) := by
  refine Met.ofW (cc := cX11_set) (maxL := 6) (ret := (some .int)) (by decide) rfl ?_
  intro p e s m args below meth c s₁ B hml hv
  obtain ⟨hav, hsz, hK, hZ, hP, hD⟩ := hv
  have hx := B.exec
  have hb := B.bytes
  have hr := B.returns
  have hts := atoms_spec (ws := wsX11_set) B.pre
  have hown : s.vm.findClass RX11 = some m.cls := findClass_of_methodNamed B.named
  have hlocks := B.notSynchronized
  subst hsz
  have hA : ∀ q : Nat, s.heap.size ≤ q → xA ad ids s.heap.size q := fun q h => Or.inr h
  have hW : xW D KA layX stX ad ids (xA ad ids s.heap.size) s.heap σ s.heap [] := ⟨hP, xA_D (D := D) hD, va_S.rf⟩
  have kr : ∀ (v : Int32) (σ : St) (H : Heap) (locs : List Loc) (ls : Array Slot) (pc : Nat), xW D KA layX stX ad ids (xA ad ids s.heap.size) s.heap σ H locs → post v σ → decode cX11_set pc = .ok (.ireturn, 1) → W p l e rmX11_set s m args below meth c H locs 0 0 (MQ below (va_Qi post (xOut D KA layX stX ad ids) (xA ad ids s.heap.size)) args s 0 0 (xA ad ids s.heap.size)) (F0 m pc ls [.int v]) := fun v σ H locs ls pc hW h hd => x_iret hx hb hr hlocks hW h hd
  have hl := lv_entry ([.ref (ad 0), .int a1, .int a2, .int a3]) (n := 6) (Nat.le_of_ble_eq_true rfl)
  rw [show entryFrame m args 6 = entryFrame m ([.ref (ad 0), .int a1, .int a2, .int a3] : List Value).toArray 6 from by rw [hav]]
  rw [lg_entry_eq]
  generalize (lg_sl ([.ref (ad 0), .int a1, .int a2, .int a3]) ++ List.replicate (6 - (lg_sl ([.ref (ad 0), .int a1, .int a2, .int a3])).length) Slot.unset).toArray = ls at hl ⊢
  have hl : lv_has ls 6 [(0, .ref (ad 0)), (1, .int a1), (2, .int a2), (3, .int a3)] := hl
  show W p l e rmX11_set s m args below meth c s.heap [] 0 0 _ _
  generalize MQ below (va_Qi post (xOut D KA layX stX ad ids) (xA ad ids s.heap.size)) args s 0 0 (xA ad ids s.heap.size) = Q at kr ⊢
  have blk126 : ∀ (σ : St) (H : Heap) (locs : List Loc) (ls : Array Slot), xW D KA layX stX ad ids (xA ad ids s.heap.size) s.heap σ H locs → lv_has ls 6 [] → wX11_set_126 ids post  σ → W p l e rmX11_set s m args below meth c H locs 0 0 Q (F0 m 126 ls []) := by
    intro    σ H locs ls hW hl h
    unfold wX11_set_126 at h
    refine lv_bipush (v := (-2)) hx hb dX11_set_126 (by decide) ?_
    exact kr _ _ _ _ _ _ hW h dX11_set_128
  have blk120 : ∀ (x5 : Int32) (s0 : Nat) (ok_s0 : okM ids s0) (s1 : Int32) (σ : St) (H : Heap) (locs : List Loc) (ls : Array Slot), xW D KA layX stX ad ids (xA ad ids s.heap.size) s.heap σ H locs → lv_has ls 6 [(5, .int x5)] → wX11_set_120 ids post x5 s0 s1 σ → W p l e rmX11_set s m args below meth c H locs 0 0 Q (F0 m 120 ls [.int s1, .ref (ad s0)]) := by
    intro   x5 s0 ok_s0 s1 σ H locs ls hW hl h
    unfold wX11_set_120 at h
    obtain ⟨hz1, h⟩ := h
    refine xpX5_5 hx hb hts hown hK hW s0 hcX11_set_X5 ok_s0.1 (lay_okM ok_s0) (hts _ hwX11_set_0) hz1 dX11_set_120 (fun σ2 H locs hσ2 hW => ?_)
    have h := h σ2 hσ2
    refine lv_iload hx hb dX11_set_123 (lv_at hl 0 rfl) ?_
    exact kr _ _ _ _ _ _ hW h dX11_set_125
  have blk84 : ∀ (x2 : Int32) (x3 : Int32) (x4 : Nat) (ok_x4 : okM ids x4) (σ : St) (H : Heap) (locs : List Loc) (ls : Array Slot), xW D KA layX stX ad ids (xA ad ids s.heap.size) s.heap σ H locs → lv_has ls 6 [(2, .int x2), (3, .int x3), (4, .ref (ad x4))] → wX11_set_84 ids post x2 x3 x4 σ → W p l e rmX11_set s m args below meth c H locs 0 0 Q (F0 m 84 ls []) := by
    intro   x2 x3 x4 ok_x4 σ H locs ls hW hl h
    unfold wX11_set_84 at h
    refine lv_iload_n hx hb dX11_set_84 rfl (lv_at hl 0 rfl) ?_
    refine lv_iconst (v := 2) hx hb dX11_set_85 (by decide) ?_
    refine lv_icmp_ne (tgt := 126) hx hb dX11_set_86 (by decide) (fun c3 => ?_) (fun c3 => ?_)
    · have h := h.1 c3
      exact blk126    _ _ _ _ hW (lv_sub hl [] rfl) h
    · have h := h.2 c3
      refine lv_iload_n hx hb dX11_set_89 rfl (lv_at hl 1 rfl) ?_
      refine lv_iconst (v := 0) hx hb dX11_set_90 (by decide) ?_
      refine lv_iconst (v := 1) hx hb dX11_set_91 (by decide) ?_
      refine x_calli (va_runS (As := [.int x3, .int (0 : Int32), .int (1 : Int32)]) (rest := []) ⟨hx, hb, hml, hown, hts⟩ (J_X11_within l hI h) (va_cwS 3 hts gX11_set_X11_within rfl rfl rfl hdS_X11_within ⟨Nat.le_of_ble_eq_true rfl, Nat.le_of_ble_eq_true rfl⟩) (x_preS hK hZ hA hW) rfl rfl hl.1 rfl (lv_room (Nat.le_of_ble_eq_true rfl)) dX11_set_92 ⟨Nat.zero_le _, Nat.zero_le _⟩) hW hA (fun r5 σ4 H locs h hW => ?_)
      try dsimp only at h
      refine lv_if_eq (tgt := 126) hx hb dX11_set_95 (by decide) (fun c6 => ?_) (fun c6 => ?_)
      · have h := h.1 c6
        exact blk126    _ _ _ _ hW (lv_sub hl [] rfl) h
      · have h := h.2 c6
        refine lv_aload hx hb dX11_set_98 (lv_at hl 2 rfl) ?_
        refine xgX5_5 hx hb hts hown hK hW x4 hcX11_set_X5 ok_x4.1 (lay_okM ok_x4) (hts _ hwX11_set_0) dX11_set_100 ?_
        refine x_calli (va_runS (As := [.int (gI σ4 x4 5)]) (rest := []) ⟨hx, hb, hml, hown, hts⟩ (J_X11_asBit l hI h) (va_cwS 1 hts gX11_set_X11_asBit rfl rfl rfl hdS_X11_asBit ⟨Nat.le_of_ble_eq_true rfl, Nat.le_of_ble_eq_true rfl⟩) (x_preS hK hZ hA hW) rfl rfl hl.1 rfl (lv_room (Nat.le_of_ble_eq_true rfl)) dX11_set_103 ⟨Nat.zero_le _, Nat.zero_le _⟩) hW hA (fun r8 σ7 H locs h hW => ?_)
        try dsimp only at h
        refine lv_istore (lv' := [(5, .int r8), (2, .int x2), (3, .int x3), (4, .ref (ad x4))]) hx hb dX11_set_106 hl (by decide) rfl (fun ls hl => ?_)
        refine lv_aload hx hb dX11_set_108 (lv_at hl 3 rfl) ?_
        refine lv_iload_n hx hb dX11_set_110 rfl (lv_at hl 2 rfl) ?_
        refine lv_iconst (v := 1) hx hb dX11_set_111 (by decide) ?_
        refine lv_icmp_ne (tgt := 119) hx hb dX11_set_112 (by decide) (fun c9 => ?_) (fun c9 => ?_)
        · have h := h.1 c9
          refine lv_iconst (v := 0) hx hb dX11_set_119 (by decide) ?_
          exact blk120   r8 x4 ok_x4 (0 : Int32) _ _ _ _ hW (lv_sub hl [0] rfl) h
        · have h := h.2 c9
          refine lv_iconst (v := 1) hx hb dX11_set_115 (by decide) ?_
          refine lv_goto (tgt := 120) hx hb dX11_set_116 (by decide) ?_
          exact blk120   r8 x4 ok_x4 (1 : Int32) _ _ _ _ hW (lv_sub hl [0] rfl) h
  have blk53 : ∀ (x2 : Int32) (x3 : Int32) (x4 : Nat) (ok_x4 : okM ids x4) (σ : St) (H : Heap) (locs : List Loc) (ls : Array Slot), xW D KA layX stX ad ids (xA ad ids s.heap.size) s.heap σ H locs → lv_has ls 6 [(2, .int x2), (3, .int x3), (4, .ref (ad x4))] → wX11_set_53 ids post x2 x3 x4 σ → W p l e rmX11_set s m args below meth c H locs 0 0 Q (F0 m 53 ls []) := by
    intro   x2 x3 x4 ok_x4 σ H locs ls hW hl h
    unfold wX11_set_53 at h
    refine lv_iload_n hx hb dX11_set_53 rfl (lv_at hl 0 rfl) ?_
    refine lv_iconst (v := 1) hx hb dX11_set_54 (by decide) ?_
    refine lv_icmp_ne (tgt := 84) hx hb dX11_set_55 (by decide) (fun c10 => ?_) (fun c10 => ?_)
    · have h := h.1 c10
      exact blk84   x2 x3 x4 ok_x4 _ _ _ _ hW (lv_sub hl [0, 1, 2] rfl) h
    · have h := h.2 c10
      refine lv_iload_n hx hb dX11_set_58 rfl (lv_at hl 1 rfl) ?_
      refine lv_iconst (v := 0) hx hb dX11_set_59 (by decide) ?_
      refine lv_bipush (v := 24) hx hb dX11_set_60 (by decide) ?_
      refine x_calli (va_runS (As := [.int x3, .int (0 : Int32), .int (24 : Int32)]) (rest := []) ⟨hx, hb, hml, hown, hts⟩ (J_X11_within l hI h) (va_cwS 3 hts gX11_set_X11_within rfl rfl rfl hdS_X11_within ⟨Nat.le_of_ble_eq_true rfl, Nat.le_of_ble_eq_true rfl⟩) (x_preS hK hZ hA hW) rfl rfl hl.1 rfl (lv_room (Nat.le_of_ble_eq_true rfl)) dX11_set_62 ⟨Nat.zero_le _, Nat.zero_le _⟩) hW hA (fun r12 σ11 H locs h hW => ?_)
      try dsimp only at h
      refine lv_if_eq (tgt := 84) hx hb dX11_set_65 (by decide) (fun c13 => ?_) (fun c13 => ?_)
      · have h := h.1 c13
        exact blk84   x2 x3 x4 ok_x4 _ _ _ _ hW (lv_sub hl [0, 1, 2] rfl) h
      · have h := h.2 c13
        refine lv_aload hx hb dX11_set_68 (lv_at hl 2 rfl) ?_
        refine xgX5_4 hx hb hts hown hK hW x4 hcX11_set_X5 ok_x4.1 (lay_okM ok_x4) (hts _ hwX11_set_1) dX11_set_70 ?_
        refine lv_topi (fun v14 hv14 => ?_)
        have h := h v14 hv14
        refine lv_istore (lv' := [(5, .int v14), (2, .int x2), (3, .int x3), (4, .ref (ad x4))]) hx hb dX11_set_73 hl (by decide) rfl (fun ls hl => ?_)
        refine lv_aload hx hb dX11_set_75 (lv_at hl 3 rfl) ?_
        refine lv_iload_n hx hb dX11_set_77 rfl (lv_at hl 2 rfl) ?_
        refine xpX5_4 hx hb hts hown hK hW x4 hcX11_set_X5 ok_x4.1 (lay_okM ok_x4) (hts _ hwX11_set_1) dX11_set_78 (fun σ15 H locs hσ15 hW => ?_)
        have h := h σ15 hσ15
        refine lv_iload hx hb dX11_set_81 (lv_at hl 0 rfl) ?_
        exact kr _ _ _ _ _ _ hW h dX11_set_83
  have main : ∀ (H : Heap) (locs : List Loc) (ls : Array Slot), xW D KA layX stX ad ids (xA ad ids s.heap.size) s.heap σ H locs → lv_has ls 6 [(0, .ref (ad 0)), (1, .int a1), (2, .int a2), (3, .int a3)] → W p l e rmX11_set s m args below meth c H locs 0 0 Q (F0 m 0 ls []) := by
    intro H locs ls hW hl
    unfold wX11_set at h
    refine lv_aload_n hx hb dX11_set_0 rfl (lv_at hl 0 rfl) ?_
    refine lv_iload_n hx hb dX11_set_1 rfl (lv_at hl 1 rfl) ?_
    refine x_calli (va_runV (As := [.int a1]) (rest := []) ⟨hx, hb, hml, hown, hts⟩ (J_X11_isMachine l hI h) (cwV 1 hts gX11_set_X11_isMachine rfl rfl rfl hdV_X11_isMachine ⟨Nat.le_of_ble_eq_true rfl, Nat.le_of_ble_eq_true rfl⟩) (x_preV (ci := 11) hK hZ hA hW (hI 0 (by decide)) lX_0 rfl) rfl rfl hl.1 rfl (lv_room (Nat.le_of_ble_eq_true rfl)) dX11_set_2 ⟨Nat.zero_le _, Nat.zero_le _⟩) hW hA (fun r1002 σ1001 H locs h hW => ?_)
    try dsimp only at h
    refine lv_if_ne (tgt := 11) hx hb dX11_set_5 (by decide) (fun c1003 => ?_) (fun c1003 => ?_)
    · have h := h.1 c1003
      refine lv_aload_n hx hb dX11_set_11 rfl (lv_at hl 0 rfl) ?_
      refine xgX11_0r hx hb hts hown hK hW 0 hcX11_set_X11 (hI 0 (by decide)) lX_0 (hts _ hwX11_set_2) (sX_0_0 _) dX11_set_12 ?_
      refine xgX6_10r hx hb hts hown hK hW 1 hcX11_set_X6 (hI 1 (by decide)) lX_1 (hts _ hwX11_set_3) (sX_1_10 _) dX11_set_15 ?_
      refine lv_iload_n hx hb dX11_set_18 rfl (lv_at hl 1 rfl) ?_
      obtain ⟨hi1004, h⟩ := h
      obtain ⟨o1005, hr1006, ok_o1005, h⟩ := h
      refine x_ald hx hb hK hW 9 1 (hI 9 (by decide)) lX_9 rfl hi1004 ((sX_9 _ _).trans hr1006) dX11_set_19 ?_
      refine lv_astore (lv' := [(4, .ref (ad o1005)), (0, .ref (ad 0)), (1, .int a1), (2, .int a2), (3, .int a3)]) hx hb dX11_set_20 hl (by decide) rfl (fun ls hl => ?_)
      refine lv_iload_n hx hb dX11_set_22 rfl (lv_at hl 3 rfl) ?_
      refine lv_if_ne (tgt := 53) hx hb dX11_set_23 (by decide) (fun c1007 => ?_) (fun c1007 => ?_)
      · have h := h.1 c1007
        exact blk53   a2 a3 o1005 ok_o1005 _ _ _ _ hW (lv_sub hl [3, 4, 0] rfl) h
      · have h := h.2 c1007
        refine lv_iload_n hx hb dX11_set_26 rfl (lv_at hl 4 rfl) ?_
        refine lv_iconst (v := 0) hx hb dX11_set_27 (by decide) ?_
        refine lv_sipush (v := 999) hx hb dX11_set_28 (by decide) ?_
        refine x_calli (va_runS (As := [.int a3, .int (0 : Int32), .int (999 : Int32)]) (rest := []) ⟨hx, hb, hml, hown, hts⟩ (J_X11_within l hI h) (va_cwS 3 hts gX11_set_X11_within rfl rfl rfl hdS_X11_within ⟨Nat.le_of_ble_eq_true rfl, Nat.le_of_ble_eq_true rfl⟩) (x_preS hK hZ hA hW) rfl rfl hl.1 rfl (lv_room (Nat.le_of_ble_eq_true rfl)) dX11_set_31 ⟨Nat.zero_le _, Nat.zero_le _⟩) hW hA (fun r1009 σ1008 H locs h hW => ?_)
        try dsimp only at h
        refine lv_if_eq (tgt := 53) hx hb dX11_set_34 (by decide) (fun c1010 => ?_) (fun c1010 => ?_)
        · have h := h.1 c1010
          exact blk53   a2 a3 o1005 ok_o1005 _ _ _ _ hW (lv_sub hl [3, 4, 0] rfl) h
        · have h := h.2 c1010
          refine lv_aload hx hb dX11_set_37 (lv_at hl 0 rfl) ?_
          refine xgX5_3 hx hb hts hown hK hW o1005 hcX11_set_X5 ok_o1005.1 (lay_okM ok_o1005) (hts _ hwX11_set_4) dX11_set_39 ?_
          refine lv_topi (fun v1011 hv1011 => ?_)
          have h := h v1011 hv1011
          refine lv_istore (lv' := [(5, .int v1011), (4, .ref (ad o1005)), (0, .ref (ad 0)), (1, .int a1), (2, .int a2), (3, .int a3)]) hx hb dX11_set_42 hl (by decide) rfl (fun ls hl => ?_)
          refine lv_aload hx hb dX11_set_44 (lv_at hl 1 rfl) ?_
          refine lv_iload_n hx hb dX11_set_46 rfl (lv_at hl 5 rfl) ?_
          refine xpX5_3 hx hb hts hown hK hW o1005 hcX11_set_X5 ok_o1005.1 (lay_okM ok_o1005) (hts _ hwX11_set_4) dX11_set_47 (fun σ1012 H locs hσ1012 hW => ?_)
          have h := h σ1012 hσ1012
          refine lv_iload hx hb dX11_set_50 (lv_at hl 0 rfl) ?_
          exact kr _ _ _ _ _ _ hW h dX11_set_52
    · have h := h.2 c1003
      refine lv_bipush (v := (-2)) hx hb dX11_set_8 (by decide) ?_
      exact kr _ _ _ _ _ _ hW h dX11_set_10
  exact main _ _ _ hW hl
theorem hwX6_addShaft_0 : (.fieldLink RX6 11 "FortyBelts$Mill" "places" "[I" : Cond) ∈ wsX6_addShaft := (List.mem_cons_of_mem _ (List.mem_append_left _ (List.mem_of_getElem? (i := 0) rfl)))
theorem hwX6_addShaft_1 : (.fieldLink RX6 56 "FortyBelts$Mill" "shaftCount" "I" : Cond) ∈ wsX6_addShaft := (List.mem_cons_of_mem _ (List.mem_append_left _ (List.mem_of_getElem? (i := 1) rfl)))
theorem hwX6_addShaft_2 : (.fieldLink RX6 15 "FortyBelts$Mill" "bends" "[I" : Cond) ∈ wsX6_addShaft := (List.mem_cons_of_mem _ (List.mem_append_left _ (List.mem_of_getElem? (i := 2) rfl)))
theorem hwX6_addShaft_3 : (.fieldLink RX6 18 "FortyBelts$Mill" "drivenBy" "[I" : Cond) ∈ wsX6_addShaft := (List.mem_cons_of_mem _ (List.mem_append_left _ (List.mem_of_getElem? (i := 3) rfl)))
theorem hwX6_addShaft_4 : (.fieldLink RX6 25 "FortyBelts$Mill" "below" "[J" : Cond) ∈ wsX6_addShaft := (List.mem_cons_of_mem _ (List.mem_append_left _ (List.mem_of_getElem? (i := 4) rfl)))
theorem hcX6_addShaft_X6 : ∀ w ∈ wsX60, w ∈ wsX6_addShaft := fun _ h => (List.mem_cons_of_mem _ (List.mem_append_right _ h))
set_option maxHeartbeats 4000000 in
set_option maxRecDepth 100000 in
theorem J_X6_addShaft {D : va_G} {KA : Nat → ClassId} {zs : ZS} {ad : Nat → Nat} {ids : List Nat} {sz : Nat} (l : Launch) (hI : ∀ c, c < 52 ∧ ¬ c = 19 → c ∈ ids) {a1 : Int32} {a2 : Int32}  {σ : St} {post : Int32 → St → Prop} (h : wX6_addShaft ids a1 a2 σ post) : Met l yX6_addShaft wsX6_addShaft rmX6_addShaft (va_Pc [.ref (ad 1), .int a1, .int a2] (xIn D KA zs layX stX ad ids sz σ)) (va_Qi post (xOut D KA layX stX ad ids) (xA ad ids sz)) 0 0 (xA ad ids sz) := by
  refine Met.ofW (cc := cX6_addShaft) (maxL := 3) (ret := (some .int)) (by decide) rfl ?_
  intro p e s m args below meth c s₁ B hml hv
  obtain ⟨hav, hsz, hK, hZ, hP, hD⟩ := hv
  have hx := B.exec
  have hb := B.bytes
  have hr := B.returns
  have hts := atoms_spec (ws := wsX6_addShaft) B.pre
  have hown : s.vm.findClass RX6 = some m.cls := findClass_of_methodNamed B.named
  have hlocks := B.notSynchronized
  subst hsz
  have hA : ∀ q : Nat, s.heap.size ≤ q → xA ad ids s.heap.size q := fun q h => Or.inr h
  have hW : xW D KA layX stX ad ids (xA ad ids s.heap.size) s.heap σ s.heap [] := ⟨hP, xA_D (D := D) hD, va_S.rf⟩
  have kr : ∀ (v : Int32) (σ : St) (H : Heap) (locs : List Loc) (ls : Array Slot) (pc : Nat), xW D KA layX stX ad ids (xA ad ids s.heap.size) s.heap σ H locs → post v σ → decode cX6_addShaft pc = .ok (.ireturn, 1) → W p l e rmX6_addShaft s m args below meth c H locs 0 0 (MQ below (va_Qi post (xOut D KA layX stX ad ids) (xA ad ids s.heap.size)) args s 0 0 (xA ad ids s.heap.size)) (F0 m pc ls [.int v]) := fun v σ H locs ls pc hW h hd => x_iret hx hb hr hlocks hW h hd
  have hl := lv_entry ([.ref (ad 1), .int a1, .int a2]) (n := 3) (Nat.le_of_ble_eq_true rfl)
  rw [show entryFrame m args 3 = entryFrame m ([.ref (ad 1), .int a1, .int a2] : List Value).toArray 3 from by rw [hav]]
  rw [lg_entry_eq]
  generalize (lg_sl ([.ref (ad 1), .int a1, .int a2]) ++ List.replicate (3 - (lg_sl ([.ref (ad 1), .int a1, .int a2])).length) Slot.unset).toArray = ls at hl ⊢
  have hl : lv_has ls 3 [(0, .ref (ad 1)), (1, .int a1), (2, .int a2)] := hl
  show W p l e rmX6_addShaft s m args below meth c s.heap [] 0 0 _ _
  generalize MQ below (va_Qi post (xOut D KA layX stX ad ids) (xA ad ids s.heap.size)) args s 0 0 (xA ad ids s.heap.size) = Q at kr ⊢
  have main : ∀ (H : Heap) (locs : List Loc) (ls : Array Slot), xW D KA layX stX ad ids (xA ad ids s.heap.size) s.heap σ H locs → lv_has ls 3 [(0, .ref (ad 1)), (1, .int a1), (2, .int a2)] → W p l e rmX6_addShaft s m args below meth c H locs 0 0 Q (F0 m 0 ls []) := by
    intro H locs ls hW hl
    unfold wX6_addShaft at h
    refine lv_aload_n hx hb dX6_addShaft_0 rfl (lv_at hl 0 rfl) ?_
    refine xgX6_4r hx hb hts hown hK hW 1 hcX6_addShaft_X6 (hI 1 (by decide)) lX_1 (hts _ hwX6_addShaft_0) (sX_1_4 _) dX6_addShaft_1 ?_
    refine lv_aload_n hx hb dX6_addShaft_4 rfl (lv_at hl 0 rfl) ?_
    refine xgX6_0 hx hb hts hown hK hW 1 hcX6_addShaft_X6 (hI 1 (by decide)) lX_1 (hts _ hwX6_addShaft_1) dX6_addShaft_5 ?_
    refine lv_iload_n hx hb dX6_addShaft_8 rfl (lv_at hl 1 rfl) ?_
    obtain ⟨hi1001, h⟩ := h
    refine x_iast hx hb hK hW 3 (hI 3 (by decide)) lX_3 hi1001 dX6_addShaft_9 (fun σ1002 H locs hσ1002 hW => ?_)
    have h := h σ1002 hσ1002
    refine lv_aload_n hx hb dX6_addShaft_10 rfl (lv_at hl 0 rfl) ?_
    refine xgX6_5r hx hb hts hown hK hW 1 hcX6_addShaft_X6 (hI 1 (by decide)) lX_1 (hts _ hwX6_addShaft_2) (sX_1_5 _) dX6_addShaft_11 ?_
    refine lv_aload_n hx hb dX6_addShaft_14 rfl (lv_at hl 0 rfl) ?_
    refine xgX6_0 hx hb hts hown hK hW 1 hcX6_addShaft_X6 (hI 1 (by decide)) lX_1 (hts _ hwX6_addShaft_1) dX6_addShaft_15 ?_
    refine lv_iload_n hx hb dX6_addShaft_18 rfl (lv_at hl 2 rfl) ?_
    obtain ⟨hi1003, h⟩ := h
    refine x_iast hx hb hK hW 4 (hI 4 (by decide)) lX_4 hi1003 dX6_addShaft_19 (fun σ1004 H locs hσ1004 hW => ?_)
    have h := h σ1004 hσ1004
    refine lv_aload_n hx hb dX6_addShaft_20 rfl (lv_at hl 0 rfl) ?_
    refine xgX6_6r hx hb hts hown hK hW 1 hcX6_addShaft_X6 (hI 1 (by decide)) lX_1 (hts _ hwX6_addShaft_3) (sX_1_6 _) dX6_addShaft_21 ?_
    refine lv_aload_n hx hb dX6_addShaft_24 rfl (lv_at hl 0 rfl) ?_
    refine xgX6_0 hx hb hts hown hK hW 1 hcX6_addShaft_X6 (hI 1 (by decide)) lX_1 (hts _ hwX6_addShaft_1) dX6_addShaft_25 ?_
    refine lv_iconst (v := (-1)) hx hb dX6_addShaft_28 (by decide) ?_
    obtain ⟨hi1005, h⟩ := h
    refine x_iast hx hb hK hW 5 (hI 5 (by decide)) lX_5 hi1005 dX6_addShaft_29 (fun σ1006 H locs hσ1006 hW => ?_)
    have h := h σ1006 hσ1006
    refine lv_aload_n hx hb dX6_addShaft_30 rfl (lv_at hl 0 rfl) ?_
    refine xgX6_8r hx hb hts hown hK hW 1 hcX6_addShaft_X6 (hI 1 (by decide)) lX_1 (hts _ hwX6_addShaft_4) (sX_1_8 _) dX6_addShaft_31 ?_
    refine lv_aload_n hx hb dX6_addShaft_34 rfl (lv_at hl 0 rfl) ?_
    refine xgX6_0 hx hb hts hown hK hW 1 hcX6_addShaft_X6 (hI 1 (by decide)) lX_1 (hts _ hwX6_addShaft_1) dX6_addShaft_35 ?_
    refine lv_lconst (v := 1) hx hb dX6_addShaft_38 (by decide) ?_
    obtain ⟨hi1007, h⟩ := h
    refine x_last hx hb hK hW 7 (hI 7 (by decide)) lX_7 hi1007 dX6_addShaft_39 (fun σ1008 H locs hσ1008 hW => ?_)
    have h := h σ1008 hσ1008
    refine lv_aload_n hx hb dX6_addShaft_40 rfl (lv_at hl 0 rfl) ?_
    refine lv_dup hx hb dX6_addShaft_41 rfl ?_
    refine xgX6_0 hx hb hts hown hK hW 1 hcX6_addShaft_X6 (hI 1 (by decide)) lX_1 (hts _ hwX6_addShaft_1) dX6_addShaft_42 ?_
    refine lv_dup_x1 hx hb dX6_addShaft_45 rfl rfl ?_
    refine lv_iconst (v := 1) hx hb dX6_addShaft_46 (by decide) ?_
    refine lv_iadd hx hb dX6_addShaft_47 ?_
    refine xpX6_0 hx hb hts hown hK hW 1 hcX6_addShaft_X6 (hI 1 (by decide)) lX_1 (hts _ hwX6_addShaft_1) dX6_addShaft_48 (fun σ1009 H locs hσ1009 hW => ?_)
    have h := h σ1009 hσ1009
    exact kr _ _ _ _ _ _ hW h dX6_addShaft_51
  exact main _ _ _ hW hl
theorem hwX11_shaft_0 : (.fieldLink RX11 10 "FortyBelts" "mill" "LFortyBelts$Mill;" : Cond) ∈ wsX11_shaft := (List.mem_cons_of_mem _ (List.mem_append_left _ (List.mem_append_left _ (List.mem_of_getElem? (i := 0) rfl))))
theorem hwX11_shaft_1 : (.fieldLink RX11 75 "FortyBelts$Mill" "shaftCount" "I" : Cond) ∈ wsX11_shaft := (List.mem_cons_of_mem _ (List.mem_append_left _ (List.mem_append_left _ (List.mem_of_getElem? (i := 1) rfl))))
theorem hcX11_shaft_X11 : ∀ w ∈ wsX110, w ∈ wsX11_shaft := fun _ h => (List.mem_cons_of_mem _ (List.mem_append_left _ (List.mem_append_right _ h)))
theorem hcX11_shaft_X6 : ∀ w ∈ wsX60, w ∈ wsX11_shaft := fun _ h => (List.mem_cons_of_mem _ (List.mem_append_right _ h))
set_option maxHeartbeats 4000000 in
set_option maxRecDepth 100000 in
theorem J_X11_shaft {D : va_G} {KA : Nat → ClassId} {zs : ZS} {ad : Nat → Nat} {ids : List Nat} {sz : Nat} (l : Launch) (hI : ∀ c, c < 52 ∧ ¬ c = 19 → c ∈ ids) {a1 : Int32} {a2 : Int32}  {σ : St} {post : Int32 → St → Prop} (h : wX11_shaft ids a1 a2 σ post) : Met l yX11_shaft wsX11_shaft rmX11_shaft (va_Pc [.ref (ad 0), .int a1, .int a2] (xIn D KA zs layX stX ad ids sz σ)) (va_Qi post (xOut D KA layX stX ad ids) (xA ad ids sz)) 0 0 (xA ad ids sz) := by
  refine Met.ofW (cc := cX11_shaft) (maxL := 3) (ret := (some .int)) (by decide) rfl ?_
  intro p e s m args below meth c s₁ B hml hv
  obtain ⟨hav, hsz, hK, hZ, hP, hD⟩ := hv
  have hx := B.exec
  have hb := B.bytes
  have hr := B.returns
  have hts := atoms_spec (ws := wsX11_shaft) B.pre
  have hown : s.vm.findClass RX11 = some m.cls := findClass_of_methodNamed B.named
  have hlocks := B.notSynchronized
  subst hsz
  have hA : ∀ q : Nat, s.heap.size ≤ q → xA ad ids s.heap.size q := fun q h => Or.inr h
  have hW : xW D KA layX stX ad ids (xA ad ids s.heap.size) s.heap σ s.heap [] := ⟨hP, xA_D (D := D) hD, va_S.rf⟩
  have kr : ∀ (v : Int32) (σ : St) (H : Heap) (locs : List Loc) (ls : Array Slot) (pc : Nat), xW D KA layX stX ad ids (xA ad ids s.heap.size) s.heap σ H locs → post v σ → decode cX11_shaft pc = .ok (.ireturn, 1) → W p l e rmX11_shaft s m args below meth c H locs 0 0 (MQ below (va_Qi post (xOut D KA layX stX ad ids) (xA ad ids s.heap.size)) args s 0 0 (xA ad ids s.heap.size)) (F0 m pc ls [.int v]) := fun v σ H locs ls pc hW h hd => x_iret hx hb hr hlocks hW h hd
  have hl := lv_entry ([.ref (ad 0), .int a1, .int a2]) (n := 3) (Nat.le_of_ble_eq_true rfl)
  rw [show entryFrame m args 3 = entryFrame m ([.ref (ad 0), .int a1, .int a2] : List Value).toArray 3 from by rw [hav]]
  rw [lg_entry_eq]
  generalize (lg_sl ([.ref (ad 0), .int a1, .int a2]) ++ List.replicate (3 - (lg_sl ([.ref (ad 0), .int a1, .int a2])).length) Slot.unset).toArray = ls at hl ⊢
  have hl : lv_has ls 3 [(0, .ref (ad 0)), (1, .int a1), (2, .int a2)] := hl
  show W p l e rmX11_shaft s m args below meth c s.heap [] 0 0 _ _
  generalize MQ below (va_Qi post (xOut D KA layX stX ad ids) (xA ad ids s.heap.size)) args s 0 0 (xA ad ids s.heap.size) = Q at kr ⊢
  have blk50 : ∀ (s0 : Int32) (σ : St) (H : Heap) (locs : List Loc) (ls : Array Slot), xW D KA layX stX ad ids (xA ad ids s.heap.size) s.heap σ H locs → lv_has ls 3 [] → wX11_shaft_50 ids post s0 σ → W p l e rmX11_shaft s m args below meth c H locs 0 0 Q (F0 m 50 ls [.int s0]) := by
    intro   s0 σ H locs ls hW hl h
    unfold wX11_shaft_50 at h
    exact kr _ _ _ _ _ _ hW h dX11_shaft_50
  have blk21 : ∀ (σ : St) (H : Heap) (locs : List Loc) (ls : Array Slot), xW D KA layX stX ad ids (xA ad ids s.heap.size) s.heap σ H locs → lv_has ls 3 [] → wX11_shaft_21 ids post  σ → W p l e rmX11_shaft s m args below meth c H locs 0 0 Q (F0 m 21 ls []) := by
    intro    σ H locs ls hW hl h
    unfold wX11_shaft_21 at h
    refine lv_bipush (v := (-2)) hx hb dX11_shaft_21 (by decide) ?_
    exact kr _ _ _ _ _ _ hW h dX11_shaft_23
  have main : ∀ (H : Heap) (locs : List Loc) (ls : Array Slot), xW D KA layX stX ad ids (xA ad ids s.heap.size) s.heap σ H locs → lv_has ls 3 [(0, .ref (ad 0)), (1, .int a1), (2, .int a2)] → W p l e rmX11_shaft s m args below meth c H locs 0 0 Q (F0 m 0 ls []) := by
    intro H locs ls hW hl
    unfold wX11_shaft at h
    refine lv_iload_n hx hb dX11_shaft_0 rfl (lv_at hl 1 rfl) ?_
    refine lv_iconst (v := 0) hx hb dX11_shaft_1 (by decide) ?_
    refine lv_bipush (v := 99) hx hb dX11_shaft_2 (by decide) ?_
    refine x_calli (va_runS (As := [.int a1, .int (0 : Int32), .int (99 : Int32)]) (rest := []) ⟨hx, hb, hml, hown, hts⟩ (J_X11_within l hI h) (va_cwS 3 hts gX11_shaft_X11_within rfl rfl rfl hdS_X11_within ⟨Nat.le_of_ble_eq_true rfl, Nat.le_of_ble_eq_true rfl⟩) (x_preS hK hZ hA hW) rfl rfl hl.1 rfl (lv_room (Nat.le_of_ble_eq_true rfl)) dX11_shaft_4 ⟨Nat.zero_le _, Nat.zero_le _⟩) hW hA (fun r1002 σ1001 H locs h hW => ?_)
    try dsimp only at h
    refine lv_if_eq (tgt := 21) hx hb dX11_shaft_7 (by decide) (fun c1003 => ?_) (fun c1003 => ?_)
    · have h := h.1 c1003
      exact blk21    _ _ _ _ hW (lv_sub hl [] rfl) h
    · have h := h.2 c1003
      refine lv_iload_n hx hb dX11_shaft_10 rfl (lv_at hl 2 rfl) ?_
      refine lv_iconst (v := 1) hx hb dX11_shaft_11 (by decide) ?_
      refine lv_sipush (v := 9999) hx hb dX11_shaft_12 (by decide) ?_
      refine x_calli (va_runS (As := [.int a2, .int (1 : Int32), .int (9999 : Int32)]) (rest := []) ⟨hx, hb, hml, hown, hts⟩ (J_X11_within l hI h) (va_cwS 3 hts gX11_shaft_X11_within rfl rfl rfl hdS_X11_within ⟨Nat.le_of_ble_eq_true rfl, Nat.le_of_ble_eq_true rfl⟩) (x_preS hK hZ hA hW) rfl rfl hl.1 rfl (lv_room (Nat.le_of_ble_eq_true rfl)) dX11_shaft_15 ⟨Nat.zero_le _, Nat.zero_le _⟩) hW hA (fun r1005 σ1004 H locs h hW => ?_)
      try dsimp only at h
      refine lv_if_ne (tgt := 24) hx hb dX11_shaft_18 (by decide) (fun c1006 => ?_) (fun c1006 => ?_)
      · have h := h.1 c1006
        refine lv_aload_n hx hb dX11_shaft_24 rfl (lv_at hl 0 rfl) ?_
        refine xgX11_0r hx hb hts hown hK hW 0 hcX11_shaft_X11 (hI 0 (by decide)) lX_0 (hts _ hwX11_shaft_0) (sX_0_0 _) dX11_shaft_25 ?_
        refine xgX6_0 hx hb hts hown hK hW 1 hcX11_shaft_X6 (hI 1 (by decide)) lX_1 (hts _ hwX11_shaft_1) dX11_shaft_28 ?_
        refine lv_bipush (v := 8) hx hb dX11_shaft_31 (by decide) ?_
        refine lv_icmp_ne (tgt := 41) hx hb dX11_shaft_33 (by decide) (fun c1007 => ?_) (fun c1007 => ?_)
        · have h := h.1 c1007
          refine lv_aload_n hx hb dX11_shaft_41 rfl (lv_at hl 0 rfl) ?_
          refine xgX11_0r hx hb hts hown hK hW 0 hcX11_shaft_X11 (hI 0 (by decide)) lX_0 (hts _ hwX11_shaft_0) (sX_0_0 _) dX11_shaft_42 ?_
          refine lv_iload_n hx hb dX11_shaft_45 rfl (lv_at hl 1 rfl) ?_
          refine lv_iload_n hx hb dX11_shaft_46 rfl (lv_at hl 2 rfl) ?_
          refine x_calli (va_runV (As := [.int a1, .int a2]) (rest := []) ⟨hx, hb, hml, hown, hts⟩ (J_X6_addShaft l hI h) (cwV 2 hts gX11_shaft_X6_addShaft rfl rfl rfl hdV_X6_addShaft ⟨Nat.le_of_ble_eq_true rfl, Nat.le_of_ble_eq_true rfl⟩) (x_preV (ci := 6) hK hZ hA hW (hI 1 (by decide)) lX_1 rfl) rfl rfl hl.1 rfl (lv_room (Nat.le_of_ble_eq_true rfl)) dX11_shaft_47 ⟨Nat.zero_le _, Nat.zero_le _⟩) hW hA (fun r1009 σ1008 H locs h hW => ?_)
          try dsimp only at h
          exact blk50   r1009 _ _ _ _ hW (lv_sub hl [] rfl) h
        · have h := h.2 c1007
          refine lv_bipush (v := (-4)) hx hb dX11_shaft_36 (by decide) ?_
          refine lv_goto (tgt := 50) hx hb dX11_shaft_38 (by decide) ?_
          exact blk50   (-4 : Int32) _ _ _ _ hW (lv_sub hl [] rfl) h
      · have h := h.2 c1006
        exact blk21    _ _ _ _ hW (lv_sub hl [] rfl) h
  exact main _ _ _ hW hl
theorem hwX8_become_0 : (.fieldLink RX8 9 "FortyBelts$Sheet" "sort" "I" : Cond) ∈ wsX8_become := (List.mem_cons_of_mem _ (List.mem_append_left _ (List.mem_of_getElem? (i := 0) rfl)))
theorem hwX8_become_1 : (.fieldLink RX8 17 "FortyBelts$Sheet" "size" "I" : Cond) ∈ wsX8_become := (List.mem_cons_of_mem _ (List.mem_append_left _ (List.mem_of_getElem? (i := 1) rfl)))
theorem hwX8_become_2 : (.fieldLink RX8 13 "FortyBelts$Sheet" "items" "[I" : Cond) ∈ wsX8_become := (List.mem_cons_of_mem _ (List.mem_append_left _ (List.mem_of_getElem? (i := 2) rfl)))
theorem hcX8_become_X8 : ∀ w ∈ wsX80, w ∈ wsX8_become := fun _ h => (List.mem_cons_of_mem _ (List.mem_append_right _ h))
set_option maxHeartbeats 4000000 in
set_option maxRecDepth 100000 in
theorem J_X8_become {D : va_G} {KA : Nat → ClassId} {zs : ZS} {ad : Nat → Nat} {ids : List Nat} {sz : Nat} (l : Launch) (hI : ∀ c, c < 52 ∧ ¬ c = 19 → c ∈ ids) {a0 : Nat} {a1 : Int32} {a2 : Int32} (ok_a0 : okS ids a0) {σ : St} {post : St → Prop} (h : wX8_become ids a0 a1 a2 σ post) : Met l yX8_become wsX8_become rmX8_become (va_Pc [.ref (ad a0), .int a1, .int a2] (xIn D KA zs layX stX ad ids sz σ)) (va_Qv post (xOut D KA layX stX ad ids) (xA ad ids sz)) 0 0 (xA ad ids sz) := by
  refine Met.ofW (cc := cX8_become) (maxL := 3) (ret := none) (by decide) rfl ?_
  intro p e s m args below meth c s₁ B hml hv
  obtain ⟨hav, hsz, hK, hZ, hP, hD⟩ := hv
  have hx := B.exec
  have hb := B.bytes
  have hr := B.returns
  have hts := atoms_spec (ws := wsX8_become) B.pre
  have hown : s.vm.findClass RX8 = some m.cls := findClass_of_methodNamed B.named
  have hlocks := B.notSynchronized
  subst hsz
  have hA : ∀ q : Nat, s.heap.size ≤ q → xA ad ids s.heap.size q := fun q h => Or.inr h
  have hW : xW D KA layX stX ad ids (xA ad ids s.heap.size) s.heap σ s.heap [] := ⟨hP, xA_D (D := D) hD, va_S.rf⟩
  have kr : ∀ (σ : St) (H : Heap) (locs : List Loc) (ls : Array Slot) (pc : Nat), xW D KA layX stX ad ids (xA ad ids s.heap.size) s.heap σ H locs → post σ → decode cX8_become pc = .ok (.return_, 1) → W p l e rmX8_become s m args below meth c H locs 0 0 (MQ below (va_Qv post (xOut D KA layX stX ad ids) (xA ad ids s.heap.size)) args s 0 0 (xA ad ids s.heap.size)) (F0 m pc ls []) := fun σ H locs ls pc hW h hd => x_vret hx hb hr hlocks hW h hd
  have hl := lv_entry ([.ref (ad a0), .int a1, .int a2]) (n := 3) (Nat.le_of_ble_eq_true rfl)
  rw [show entryFrame m args 3 = entryFrame m ([.ref (ad a0), .int a1, .int a2] : List Value).toArray 3 from by rw [hav]]
  rw [lg_entry_eq]
  generalize (lg_sl ([.ref (ad a0), .int a1, .int a2]) ++ List.replicate (3 - (lg_sl ([.ref (ad a0), .int a1, .int a2])).length) Slot.unset).toArray = ls at hl ⊢
  have hl : lv_has ls 3 [(0, .ref (ad a0)), (1, .int a1), (2, .int a2)] := hl
  show W p l e rmX8_become s m args below meth c s.heap [] 0 0 _ _
  generalize MQ below (va_Qv post (xOut D KA layX stX ad ids) (xA ad ids s.heap.size)) args s 0 0 (xA ad ids s.heap.size) = Q at kr ⊢
  have main : ∀ (H : Heap) (locs : List Loc) (ls : Array Slot), xW D KA layX stX ad ids (xA ad ids s.heap.size) s.heap σ H locs → lv_has ls 3 [(0, .ref (ad a0)), (1, .int a1), (2, .int a2)] → W p l e rmX8_become s m args below meth c H locs 0 0 Q (F0 m 0 ls []) := by
    intro H locs ls hW hl
    unfold wX8_become at h
    refine lv_aload_n hx hb dX8_become_0 rfl (lv_at hl 0 rfl) ?_
    refine lv_iload_n hx hb dX8_become_1 rfl (lv_at hl 1 rfl) ?_
    refine xpX8_0 hx hb hts hown hK hW a0 hcX8_become_X8 ok_a0.1 (lay_okS ok_a0) (hts _ hwX8_become_0) dX8_become_2 (fun σ1001 H locs hσ1001 hW => ?_)
    have h := h σ1001 hσ1001
    refine lv_aload_n hx hb dX8_become_5 rfl (lv_at hl 0 rfl) ?_
    refine lv_iload_n hx hb dX8_become_6 rfl (lv_at hl 2 rfl) ?_
    refine xpX8_1 hx hb hts hown hK hW a0 hcX8_become_X8 ok_a0.1 (lay_okS ok_a0) (hts _ hwX8_become_1) dX8_become_7 (fun σ1002 H locs hσ1002 hW => ?_)
    have h := h σ1002 hσ1002
    refine lv_aload_n hx hb dX8_become_10 rfl (lv_at hl 0 rfl) ?_
    refine xgX8_2r hx hb hts hown hK hW a0 hcX8_become_X8 ok_a0.1 (lay_okS ok_a0) (hts _ hwX8_become_2) (st_okS1 ok_a0) dX8_become_11 ?_
    refine lv_iconst (v := 0) hx hb dX8_become_14 (by decide) ?_
    refine x_callv (va_runS (As := [.ref (ad (a0 + 1)), .int (0 : Int32)]) (rest := []) ⟨hx, hb, hml, hown, hts⟩ (J_J7_fill_53178 l hI (hI _ (okS_lt1 ok_a0)) (lay_okS1 ok_a0) h) (va_cwS 2 hts gX8_become_J7_fill_53178 rfl rfl rfl hdS_J7_fill_53178 ⟨Nat.le_of_ble_eq_true rfl, Nat.le_of_ble_eq_true rfl⟩) (x_preS hK hZ hA hW) rfl rfl hl.1 rfl (lv_room (Nat.le_of_ble_eq_true rfl)) dX8_become_15 ⟨Nat.zero_le _, Nat.zero_le _⟩) hW hA (fun σ1003 H locs h hW => ?_)
    try dsimp only at h
    exact kr _ _ _ _ _ hW h dX8_become_18
  exact main _ _ _ hW hl
theorem hwX11_sheet_0 : (.fieldLink RX11 60 "FortyBelts" "sheets" "[LFortyBelts$Sheet;" : Cond) ∈ wsX11_sheet := (List.mem_cons_of_mem _ (List.mem_append_left _ (List.mem_append_left _ (List.mem_of_getElem? (i := 0) rfl))))
theorem hcX11_sheet_X11 : ∀ w ∈ wsX110, w ∈ wsX11_sheet := fun _ h => (List.mem_cons_of_mem _ (List.mem_append_left _ (List.mem_append_right _ h)))
set_option maxHeartbeats 4000000 in
set_option maxRecDepth 100000 in
theorem J_X11_sheet {D : va_G} {KA : Nat → ClassId} {zs : ZS} {ad : Nat → Nat} {ids : List Nat} {sz : Nat} (l : Launch) (hI : ∀ c, c < 52 ∧ ¬ c = 19 → c ∈ ids) {a1 : Int32} {a2 : Int32} {a3 : Int32}  {σ : St} {post : Int32 → St → Prop} (h : wX11_sheet ids a1 a2 a3 σ post) : Met l yX11_sheet wsX11_sheet rmX11_sheet (va_Pc [.ref (ad 0), .int a1, .int a2, .int a3] (xIn D KA zs layX stX ad ids sz σ)) (va_Qi post (xOut D KA layX stX ad ids) (xA ad ids sz)) 0 0 (xA ad ids sz) := by
  refine Met.ofW (cc := cX11_sheet) (maxL := 4) (ret := (some .int)) (by decide) rfl ?_
  intro p e s m args below meth c s₁ B hml hv
  obtain ⟨hav, hsz, hK, hZ, hP, hD⟩ := hv
  have hx := B.exec
  have hb := B.bytes
  have hr := B.returns
  have hts := atoms_spec (ws := wsX11_sheet) B.pre
  have hown : s.vm.findClass RX11 = some m.cls := findClass_of_methodNamed B.named
  have hlocks := B.notSynchronized
  subst hsz
  have hA : ∀ q : Nat, s.heap.size ≤ q → xA ad ids s.heap.size q := fun q h => Or.inr h
  have hW : xW D KA layX stX ad ids (xA ad ids s.heap.size) s.heap σ s.heap [] := ⟨hP, xA_D (D := D) hD, va_S.rf⟩
  have kr : ∀ (v : Int32) (σ : St) (H : Heap) (locs : List Loc) (ls : Array Slot) (pc : Nat), xW D KA layX stX ad ids (xA ad ids s.heap.size) s.heap σ H locs → post v σ → decode cX11_sheet pc = .ok (.ireturn, 1) → W p l e rmX11_sheet s m args below meth c H locs 0 0 (MQ below (va_Qi post (xOut D KA layX stX ad ids) (xA ad ids s.heap.size)) args s 0 0 (xA ad ids s.heap.size)) (F0 m pc ls [.int v]) := fun v σ H locs ls pc hW h hd => x_iret hx hb hr hlocks hW h hd
  have hl := lv_entry ([.ref (ad 0), .int a1, .int a2, .int a3]) (n := 4) (Nat.le_of_ble_eq_true rfl)
  rw [show entryFrame m args 4 = entryFrame m ([.ref (ad 0), .int a1, .int a2, .int a3] : List Value).toArray 4 from by rw [hav]]
  rw [lg_entry_eq]
  generalize (lg_sl ([.ref (ad 0), .int a1, .int a2, .int a3]) ++ List.replicate (4 - (lg_sl ([.ref (ad 0), .int a1, .int a2, .int a3])).length) Slot.unset).toArray = ls at hl ⊢
  have hl : lv_has ls 4 [(0, .ref (ad 0)), (1, .int a1), (2, .int a2), (3, .int a3)] := hl
  show W p l e rmX11_sheet s m args below meth c s.heap [] 0 0 _ _
  generalize MQ below (va_Qi post (xOut D KA layX stX ad ids) (xA ad ids s.heap.size)) args s 0 0 (xA ad ids s.heap.size) = Q at kr ⊢
  have blk22 : ∀ (x1 : Int32) (x2 : Int32) (x3 : Int32) (σ : St) (H : Heap) (locs : List Loc) (ls : Array Slot), xW D KA layX stX ad ids (xA ad ids s.heap.size) s.heap σ H locs → lv_has ls 4 [(0, .ref (ad 0)), (1, .int x1), (2, .int x2), (3, .int x3)] → wX11_sheet_22 ids post x1 x2 x3 σ → W p l e rmX11_sheet s m args below meth c H locs 0 0 Q (F0 m 22 ls []) := by
    intro   x1 x2 x3 σ H locs ls hW hl h
    unfold wX11_sheet_22 at h
    refine lv_iload_n hx hb dX11_sheet_22 rfl (lv_at hl 2 rfl) ?_
    refine lv_iconst (v := (-1)) hx hb dX11_sheet_23 (by decide) ?_
    refine lv_icmp_ne (tgt := 40) hx hb dX11_sheet_24 (by decide) (fun c1 => ?_) (fun c1 => ?_)
    · have h := h.1 c1
      refine lv_iload_n hx hb dX11_sheet_40 rfl (lv_at hl 3 rfl) ?_
      refine lv_bipush (v := 40) hx hb dX11_sheet_41 (by decide) ?_
      refine lv_icmp_le (tgt := 49) hx hb dX11_sheet_43 (by decide) (fun c2 => ?_) (fun c2 => ?_)
      · have h := h.1 c2
        refine lv_iload_n hx hb dX11_sheet_49 rfl (lv_at hl 3 rfl) ?_
        refine lv_if_ge (tgt := 56) hx hb dX11_sheet_50 (by decide) (fun c3 => ?_) (fun c3 => ?_)
        · have h := h.1 c3
          refine lv_aload_n hx hb dX11_sheet_56 rfl (lv_at hl 0 rfl) ?_
          refine xgX11_6r hx hb hts hown hK hW 0 hcX11_sheet_X11 (hI 0 (by decide)) lX_0 (hts _ hwX11_sheet_0) (sX_0_6 _) dX11_sheet_57 ?_
          refine lv_iload_n hx hb dX11_sheet_60 rfl (lv_at hl 1 rfl) ?_
          obtain ⟨hi4, h⟩ := h
          refine x_ald hx hb hK hW 16 2 (hI 16 (by decide)) lX_16 rfl hi4 (st_aokS hi4) dX11_sheet_61 ?_
          refine lv_iload_n hx hb dX11_sheet_62 rfl (lv_at hl 2 rfl) ?_
          refine lv_iload_n hx hb dX11_sheet_63 rfl (lv_at hl 3 rfl) ?_
          refine x_callv (va_runV (As := [.int x2, .int x3]) (rest := []) ⟨hx, hb, hml, hown, hts⟩ (J_X8_become l hI (okS_of hI hi4) h) (cwV 2 hts gX11_sheet_X8_become rfl rfl rfl hdV_X8_become ⟨Nat.le_of_ble_eq_true rfl, Nat.le_of_ble_eq_true rfl⟩) (x_preV (ci := 8) hK hZ hA hW (okS_of hI hi4).1 (lay_okS (okS_of hI hi4)) rfl) rfl rfl hl.1 rfl (lv_room (Nat.le_of_ble_eq_true rfl)) dX11_sheet_64 ⟨Nat.zero_le _, Nat.zero_le _⟩) hW hA (fun σ5 H locs h hW => ?_)
          try dsimp only at h
          refine lv_iconst (v := 1) hx hb dX11_sheet_67 (by decide) ?_
          exact kr _ _ _ _ _ _ hW h dX11_sheet_68
        · have h := h.2 c3
          refine lv_bipush (v := (-14)) hx hb dX11_sheet_53 (by decide) ?_
          exact kr _ _ _ _ _ _ hW h dX11_sheet_55
      · have h := h.2 c2
        refine lv_bipush (v := (-2)) hx hb dX11_sheet_46 (by decide) ?_
        exact kr _ _ _ _ _ _ hW h dX11_sheet_48
    · have h := h.2 c1
      refine lv_aload_n hx hb dX11_sheet_27 rfl (lv_at hl 0 rfl) ?_
      refine xgX11_6r hx hb hts hown hK hW 0 hcX11_sheet_X11 (hI 0 (by decide)) lX_0 (hts _ hwX11_sheet_0) (sX_0_6 _) dX11_sheet_28 ?_
      refine lv_iload_n hx hb dX11_sheet_31 rfl (lv_at hl 1 rfl) ?_
      obtain ⟨hi6, h⟩ := h
      refine x_ald hx hb hK hW 16 2 (hI 16 (by decide)) lX_16 rfl hi6 (st_aokS hi6) dX11_sheet_32 ?_
      refine lv_iconst (v := (-1)) hx hb dX11_sheet_33 (by decide) ?_
      refine lv_iconst (v := 0) hx hb dX11_sheet_34 (by decide) ?_
      refine x_callv (va_runV (As := [.int (-1 : Int32), .int (0 : Int32)]) (rest := []) ⟨hx, hb, hml, hown, hts⟩ (J_X8_become l hI (okS_of hI hi6) h) (cwV 2 hts gX11_sheet_X8_become rfl rfl rfl hdV_X8_become ⟨Nat.le_of_ble_eq_true rfl, Nat.le_of_ble_eq_true rfl⟩) (x_preV (ci := 8) hK hZ hA hW (okS_of hI hi6).1 (lay_okS (okS_of hI hi6)) rfl) rfl rfl hl.1 rfl (lv_room (Nat.le_of_ble_eq_true rfl)) dX11_sheet_35 ⟨Nat.zero_le _, Nat.zero_le _⟩) hW hA (fun σ7 H locs h hW => ?_)
      try dsimp only at h
      refine lv_iconst (v := 1) hx hb dX11_sheet_38 (by decide) ?_
      exact kr _ _ _ _ _ _ hW h dX11_sheet_39
  have blk19 : ∀ (σ : St) (H : Heap) (locs : List Loc) (ls : Array Slot), xW D KA layX stX ad ids (xA ad ids s.heap.size) s.heap σ H locs → lv_has ls 4 [] → wX11_sheet_19 ids post  σ → W p l e rmX11_sheet s m args below meth c H locs 0 0 Q (F0 m 19 ls []) := by
    intro    σ H locs ls hW hl h
    unfold wX11_sheet_19 at h
    refine lv_bipush (v := (-2)) hx hb dX11_sheet_19 (by decide) ?_
    exact kr _ _ _ _ _ _ hW h dX11_sheet_21
  have main : ∀ (H : Heap) (locs : List Loc) (ls : Array Slot), xW D KA layX stX ad ids (xA ad ids s.heap.size) s.heap σ H locs → lv_has ls 4 [(0, .ref (ad 0)), (1, .int a1), (2, .int a2), (3, .int a3)] → W p l e rmX11_sheet s m args below meth c H locs 0 0 Q (F0 m 0 ls []) := by
    intro H locs ls hW hl
    unfold wX11_sheet at h
    refine lv_iload_n hx hb dX11_sheet_0 rfl (lv_at hl 1 rfl) ?_
    refine x_calli (va_runS (As := [.int a1]) (rest := []) ⟨hx, hb, hml, hown, hts⟩ (J_X11_isSheet l hI h) (va_cwS 1 hts gX11_sheet_X11_isSheet rfl rfl rfl hdS_X11_isSheet ⟨Nat.le_of_ble_eq_true rfl, Nat.le_of_ble_eq_true rfl⟩) (x_preS hK hZ hA hW) rfl rfl hl.1 rfl (lv_room (Nat.le_of_ble_eq_true rfl)) dX11_sheet_1 ⟨Nat.zero_le _, Nat.zero_le _⟩) hW hA (fun r1002 σ1001 H locs h hW => ?_)
    try dsimp only at h
    refine lv_if_eq (tgt := 19) hx hb dX11_sheet_4 (by decide) (fun c1003 => ?_) (fun c1003 => ?_)
    · have h := h.1 c1003
      exact blk19    _ _ _ _ hW (lv_sub hl [] rfl) h
    · have h := h.2 c1003
      refine lv_iload_n hx hb dX11_sheet_7 rfl (lv_at hl 2 rfl) ?_
      refine lv_iconst (v := (-1)) hx hb dX11_sheet_8 (by decide) ?_
      refine lv_icmp_eq (tgt := 22) hx hb dX11_sheet_9 (by decide) (fun c1004 => ?_) (fun c1004 => ?_)
      · have h := h.1 c1004
        exact blk22   a1 a2 a3 _ _ _ _ hW (lv_sub hl [0, 1, 2, 3] rfl) h
      · have h := h.2 c1004
        refine lv_iload_n hx hb dX11_sheet_12 rfl (lv_at hl 2 rfl) ?_
        refine x_calli (va_runS (As := [.int a2]) (rest := []) ⟨hx, hb, hml, hown, hts⟩ (J_X11_isSort l hI h) (va_cwS 1 hts gX11_sheet_X11_isSort rfl rfl rfl hdS_X11_isSort ⟨Nat.le_of_ble_eq_true rfl, Nat.le_of_ble_eq_true rfl⟩) (x_preS hK hZ hA hW) rfl rfl hl.1 rfl (lv_room (Nat.le_of_ble_eq_true rfl)) dX11_sheet_13 ⟨Nat.zero_le _, Nat.zero_le _⟩) hW hA (fun r1006 σ1005 H locs h hW => ?_)
        try dsimp only at h
        refine lv_if_ne (tgt := 22) hx hb dX11_sheet_16 (by decide) (fun c1007 => ?_) (fun c1007 => ?_)
        · have h := h.1 c1007
          exact blk22   a1 a2 a3 _ _ _ _ hW (lv_sub hl [0, 1, 2, 3] rfl) h
        · have h := h.2 c1007
          exact blk19    _ _ _ _ hW (lv_sub hl [] rfl) h
  exact main _ _ _ hW hl
theorem hwX11_start_0 : (.fieldLink RX11 10 "FortyBelts" "mill" "LFortyBelts$Mill;" : Cond) ∈ wsX11_start := (List.mem_cons_of_mem _ (List.mem_append_left _ (List.mem_append_left _ (List.mem_append_left _ (List.mem_append_left _ (List.mem_append_left _ (List.mem_append_left _ (List.mem_append_left _ (List.mem_append_left _ (List.mem_append_left _ (List.mem_append_left _ (List.mem_of_getElem? (i := 0) rfl))))))))))))
theorem hwX11_start_1 : (.fieldLink RX11 85 "FortyBelts$Mill" "power" "I" : Cond) ∈ wsX11_start := (List.mem_cons_of_mem _ (List.mem_append_left _ (List.mem_append_left _ (List.mem_append_left _ (List.mem_append_left _ (List.mem_append_left _ (List.mem_append_left _ (List.mem_append_left _ (List.mem_append_left _ (List.mem_append_left _ (List.mem_append_left _ (List.mem_of_getElem? (i := 1) rfl))))))))))))
theorem hcX11_start_X11 : ∀ w ∈ wsX110, w ∈ wsX11_start := fun _ h => (List.mem_cons_of_mem _ (List.mem_append_left _ (List.mem_append_left _ (List.mem_append_left _ (List.mem_append_left _ (List.mem_append_left _ (List.mem_append_left _ (List.mem_append_left _ (List.mem_append_left _ (List.mem_append_right _ h))))))))))
theorem hcX11_start_X6 : ∀ w ∈ wsX60, w ∈ wsX11_start := fun _ h => (List.mem_cons_of_mem _ (List.mem_append_left _ (List.mem_append_left _ (List.mem_append_left _ (List.mem_append_left _ (List.mem_append_left _ (List.mem_append_left _ (List.mem_append_left _ (List.mem_append_right _ h)))))))))
set_option maxHeartbeats 4000000 in
set_option maxRecDepth 100000 in
theorem J_X11_start {D : va_G} {KA : Nat → ClassId} {zs : ZS} {ad : Nat → Nat} {ids : List Nat} {sz : Nat} (l : Launch) (hI : ∀ c, c < 52 ∧ ¬ c = 19 → c ∈ ids) {a1 : Int32}  {σ : St} {post : Int32 → St → Prop} (h : wX11_start ids a1 σ post) : Met l yX11_start wsX11_start rmX11_start (va_Pc [.ref (ad 0), .int a1] (xIn D KA zs layX stX ad ids sz σ)) (va_Qi post (xOut D KA layX stX ad ids) (xA ad ids sz)) 0 0 (xA ad ids sz) := by
  refine Met.ofW (cc := cX11_start) (maxL := 3) (ret := (some .int)) (by decide) rfl ?_
  intro p e s m args below meth c s₁ B hml hv
  obtain ⟨hav, hsz, hK, hZ, hP, hD⟩ := hv
  have hx := B.exec
  have hb := B.bytes
  have hr := B.returns
  have hts := atoms_spec (ws := wsX11_start) B.pre
  have hown : s.vm.findClass RX11 = some m.cls := findClass_of_methodNamed B.named
  have hlocks := B.notSynchronized
  subst hsz
  have hA : ∀ q : Nat, s.heap.size ≤ q → xA ad ids s.heap.size q := fun q h => Or.inr h
  have hW : xW D KA layX stX ad ids (xA ad ids s.heap.size) s.heap σ s.heap [] := ⟨hP, xA_D (D := D) hD, va_S.rf⟩
  have kr : ∀ (v : Int32) (σ : St) (H : Heap) (locs : List Loc) (ls : Array Slot) (pc : Nat), xW D KA layX stX ad ids (xA ad ids s.heap.size) s.heap σ H locs → post v σ → decode cX11_start pc = .ok (.ireturn, 1) → W p l e rmX11_start s m args below meth c H locs 0 0 (MQ below (va_Qi post (xOut D KA layX stX ad ids) (xA ad ids s.heap.size)) args s 0 0 (xA ad ids s.heap.size)) (F0 m pc ls [.int v]) := fun v σ H locs ls pc hW h hd => x_iret hx hb hr hlocks hW h hd
  have hl := lv_entry ([.ref (ad 0), .int a1]) (n := 3) (Nat.le_of_ble_eq_true rfl)
  rw [show entryFrame m args 3 = entryFrame m ([.ref (ad 0), .int a1] : List Value).toArray 3 from by rw [hav]]
  rw [lg_entry_eq]
  generalize (lg_sl ([.ref (ad 0), .int a1]) ++ List.replicate (3 - (lg_sl ([.ref (ad 0), .int a1])).length) Slot.unset).toArray = ls at hl ⊢
  have hl : lv_has ls 3 [(0, .ref (ad 0)), (1, .int a1)] := hl
  show W p l e rmX11_start s m args below meth c s.heap [] 0 0 _ _
  generalize MQ below (va_Qi post (xOut D KA layX stX ad ids) (xA ad ids s.heap.size)) args s 0 0 (xA ad ids s.heap.size) = Q at kr ⊢
  have blk60 : ∀ (s0 : Int32) (σ : St) (H : Heap) (locs : List Loc) (ls : Array Slot), xW D KA layX stX ad ids (xA ad ids s.heap.size) s.heap σ H locs → lv_has ls 3 [] → wX11_start_60 ids post s0 σ → W p l e rmX11_start s m args below meth c H locs 0 0 Q (F0 m 60 ls [.int s0]) := by
    intro   s0 σ H locs ls hW hl h
    unfold wX11_start_60 at h
    exact kr _ _ _ _ _ _ hW h dX11_start_60
  have blk52 : ∀ (x2 : Int32) (σ : St) (H : Heap) (locs : List Loc) (ls : Array Slot), xW D KA layX stX ad ids (xA ad ids s.heap.size) s.heap σ H locs → lv_has ls 3 [(2, .int x2)] → wX11_start_52 ids post x2 σ → W p l e rmX11_start s m args below meth c H locs 0 0 Q (F0 m 52 ls []) := by
    intro   x2 σ H locs ls hW hl h
    unfold wX11_start_52 at h
    refine lv_iload_n hx hb dX11_start_52 rfl (lv_at hl 0 rfl) ?_
    refine lv_goto (tgt := 60) hx hb dX11_start_53 (by decide) ?_
    exact blk60   x2 _ _ _ _ hW (lv_sub hl [] rfl) h
  have main : ∀ (H : Heap) (locs : List Loc) (ls : Array Slot), xW D KA layX stX ad ids (xA ad ids s.heap.size) s.heap σ H locs → lv_has ls 3 [(0, .ref (ad 0)), (1, .int a1)] → W p l e rmX11_start s m args below meth c H locs 0 0 Q (F0 m 0 ls []) := by
    intro H locs ls hW hl
    unfold wX11_start at h
    refine lv_iload_n hx hb dX11_start_0 rfl (lv_at hl 1 rfl) ?_
    refine lv_iconst (v := 0) hx hb dX11_start_1 (by decide) ?_
    refine lv_iconst (v := 1) hx hb dX11_start_2 (by decide) ?_
    refine x_calli (va_runS (As := [.int a1, .int (0 : Int32), .int (1 : Int32)]) (rest := []) ⟨hx, hb, hml, hown, hts⟩ (J_X11_within l hI h) (va_cwS 3 hts gX11_start_X11_within rfl rfl rfl hdS_X11_within ⟨Nat.le_of_ble_eq_true rfl, Nat.le_of_ble_eq_true rfl⟩) (x_preS hK hZ hA hW) rfl rfl hl.1 rfl (lv_room (Nat.le_of_ble_eq_true rfl)) dX11_start_3 ⟨Nat.zero_le _, Nat.zero_le _⟩) hW hA (fun r1002 σ1001 H locs h hW => ?_)
    try dsimp only at h
    refine lv_if_ne (tgt := 12) hx hb dX11_start_6 (by decide) (fun c1003 => ?_) (fun c1003 => ?_)
    · have h := h.1 c1003
      refine lv_aload_n hx hb dX11_start_12 rfl (lv_at hl 0 rfl) ?_
      refine xgX11_0r hx hb hts hown hK hW 0 hcX11_start_X11 (hI 0 (by decide)) lX_0 (hts _ hwX11_start_0) (sX_0_0 _) dX11_start_13 ?_
      refine x_callv (va_runV (As := []) (rest := []) ⟨hx, hb, hml, hown, hts⟩ (J_X6_spin l hI h) (cwV 0 hts gX11_start_X6_spin rfl rfl rfl hdV_X6_spin ⟨Nat.le_of_ble_eq_true rfl, Nat.le_of_ble_eq_true rfl⟩) (x_preV (ci := 6) hK hZ hA hW (hI 1 (by decide)) lX_1 rfl) rfl rfl hl.1 rfl (lv_room (Nat.le_of_ble_eq_true rfl)) dX11_start_16 ⟨Nat.zero_le _, Nat.zero_le _⟩) hW hA (fun σ1004 H locs h hW => ?_)
      try dsimp only at h
      refine lv_aload_n hx hb dX11_start_19 rfl (lv_at hl 0 rfl) ?_
      refine xgX11_0r hx hb hts hown hK hW 0 hcX11_start_X11 (hI 0 (by decide)) lX_0 (hts _ hwX11_start_0) (sX_0_0 _) dX11_start_20 ?_
      refine x_calli (va_runV (As := []) (rest := []) ⟨hx, hb, hml, hown, hts⟩ (J_X6_loadedInAll l hI h) (cwV 0 hts gX11_start_X6_loadedInAll rfl rfl rfl hdV_X6_loadedInAll ⟨Nat.le_of_ble_eq_true rfl, Nat.le_of_ble_eq_true rfl⟩) (x_preV (ci := 6) hK hZ hA hW (hI 1 (by decide)) lX_1 rfl) rfl rfl hl.1 rfl (lv_room (Nat.le_of_ble_eq_true rfl)) dX11_start_23 ⟨Nat.zero_le _, Nat.zero_le _⟩) hW hA (fun r1006 σ1005 H locs h hW => ?_)
      try dsimp only at h
      refine lv_aload_n hx hb dX11_start_26 rfl (lv_at hl 0 rfl) ?_
      refine xgX11_0r hx hb hts hown hK hW 0 hcX11_start_X11 (hI 0 (by decide)) lX_0 (hts _ hwX11_start_0) (sX_0_0 _) dX11_start_27 ?_
      refine xgX6_15 hx hb hts hown hK hW 1 hcX11_start_X6 (hI 1 (by decide)) lX_1 (hts _ hwX11_start_1) dX11_start_30 ?_
      refine lv_icmp_le (tgt := 38) hx hb dX11_start_33 (by decide) (fun c1007 => ?_) (fun c1007 => ?_)
      · have h := h.1 c1007
        refine lv_aload_n hx hb dX11_start_38 rfl (lv_at hl 0 rfl) ?_
        refine x_calli (va_runV (As := []) (rest := []) ⟨hx, hb, hml, hown, hts⟩ (J_X11_firstOrder l hI h) (cwV 0 hts gX11_start_X11_firstOrder rfl rfl rfl hdV_X11_firstOrder ⟨Nat.le_of_ble_eq_true rfl, Nat.le_of_ble_eq_true rfl⟩) (x_preV (ci := 11) hK hZ hA hW (hI 0 (by decide)) lX_0 rfl) rfl rfl hl.1 rfl (lv_room (Nat.le_of_ble_eq_true rfl)) dX11_start_39 ⟨Nat.zero_le _, Nat.zero_le _⟩) hW hA (fun r1009 σ1008 H locs h hW => ?_)
        try dsimp only at h
        refine lv_istore_n (lv' := [(2, .int r1009), (0, .ref (ad 0)), (1, .int a1)]) hx hb dX11_start_42 rfl hl (by decide) rfl (fun ls hl => ?_)
        refine lv_iload_n hx hb dX11_start_43 rfl (lv_at hl 2 rfl) ?_
        refine lv_if_eq (tgt := 52) hx hb dX11_start_44 (by decide) (fun c1010 => ?_) (fun c1010 => ?_)
        · have h := h.1 c1010
          exact blk52   r1009 _ _ _ _ hW (lv_sub hl [0] rfl) h
        · have h := h.2 c1010
          refine lv_iload_n hx hb dX11_start_47 rfl (lv_at hl 0 rfl) ?_
          refine lv_iconst (v := (-1)) hx hb dX11_start_48 (by decide) ?_
          refine lv_icmp_ne (tgt := 56) hx hb dX11_start_49 (by decide) (fun c1011 => ?_) (fun c1011 => ?_)
          · have h := h.1 c1011
            refine lv_aload_n hx hb dX11_start_56 rfl (lv_at hl 1 rfl) ?_
            refine x_calli (va_runV (As := []) (rest := []) ⟨hx, hb, hml, hown, hts⟩ (J_X11_mostJerk l hI h) (cwV 0 hts gX11_start_X11_mostJerk rfl rfl rfl hdV_X11_mostJerk ⟨Nat.le_of_ble_eq_true rfl, Nat.le_of_ble_eq_true rfl⟩) (x_preV (ci := 11) hK hZ hA hW (hI 0 (by decide)) lX_0 rfl) rfl rfl hl.1 rfl (lv_room (Nat.le_of_ble_eq_true rfl)) dX11_start_57 ⟨Nat.zero_le _, Nat.zero_le _⟩) hW hA (fun r1013 σ1012 H locs h hW => ?_)
            try dsimp only at h
            exact blk60   r1013 _ _ _ _ hW (lv_sub hl [] rfl) h
          · have h := h.2 c1011
            exact blk52   r1009 _ _ _ _ hW (lv_sub hl [0] rfl) h
      · have h := h.2 c1007
        refine lv_iconst (v := (-1)) hx hb dX11_start_36 (by decide) ?_
        exact kr _ _ _ _ _ _ hW h dX11_start_37
    · have h := h.2 c1003
      refine lv_bipush (v := (-2)) hx hb dX11_start_9 (by decide) ?_
      exact kr _ _ _ _ _ _ hW h dX11_start_11
  exact main _ _ _ hW hl
theorem hwX11_taken_0 : (.fieldLink RX11 10 "FortyBelts" "mill" "LFortyBelts$Mill;" : Cond) ∈ wsX11_taken := (List.mem_cons_of_mem _ (List.mem_append_left _ (List.mem_append_left _ (List.mem_append_left _ (List.mem_append_left _ (List.mem_append_left _ (List.mem_append_left _ (List.mem_append_left _ (List.mem_append_left _ (List.mem_of_getElem? (i := 0) rfl))))))))))
theorem hwX11_taken_1 : (.fieldLink RX11 163 "FortyBelts$Mill" "belts" "[LFortyBelts$Belt;" : Cond) ∈ wsX11_taken := (List.mem_cons_of_mem _ (List.mem_append_left _ (List.mem_append_left _ (List.mem_append_left _ (List.mem_append_left _ (List.mem_append_left _ (List.mem_append_left _ (List.mem_append_left _ (List.mem_append_left _ (List.mem_of_getElem? (i := 1) rfl))))))))))
theorem hwX11_taken_2 : (.fieldLink RX11 361 "FortyBelts$Belt" "grip" "I" : Cond) ∈ wsX11_taken := (List.mem_cons_of_mem _ (List.mem_append_left _ (List.mem_append_left _ (List.mem_append_left _ (List.mem_append_left _ (List.mem_append_left _ (List.mem_append_left _ (List.mem_append_left _ (List.mem_append_left _ (List.mem_of_getElem? (i := 2) rfl))))))))))
theorem hcX11_taken_X11 : ∀ w ∈ wsX110, w ∈ wsX11_taken := fun _ h => (List.mem_cons_of_mem _ (List.mem_append_left _ (List.mem_append_left _ (List.mem_append_left _ (List.mem_append_left _ (List.mem_append_left _ (List.mem_append_left _ (List.mem_append_left _ (List.mem_append_right _ h)))))))))
theorem hcX11_taken_X6 : ∀ w ∈ wsX60, w ∈ wsX11_taken := fun _ h => (List.mem_cons_of_mem _ (List.mem_append_left _ (List.mem_append_left _ (List.mem_append_left _ (List.mem_append_left _ (List.mem_append_left _ (List.mem_append_left _ (List.mem_append_right _ h))))))))
theorem hcX11_taken_X0 : ∀ w ∈ wsX00, w ∈ wsX11_taken := fun _ h => (List.mem_cons_of_mem _ (List.mem_append_left _ (List.mem_append_left _ (List.mem_append_left _ (List.mem_append_left _ (List.mem_append_left _ (List.mem_append_right _ h)))))))
theorem hcX11_taken_X1 : ∀ w ∈ wsX10, w ∈ wsX11_taken := fun _ h => (List.mem_cons_of_mem _ (List.mem_append_left _ (List.mem_append_left _ (List.mem_append_left _ (List.mem_append_left _ (List.mem_append_right _ h))))))
theorem hcX11_taken_X2 : ∀ w ∈ wsX20, w ∈ wsX11_taken := fun _ h => (List.mem_cons_of_mem _ (List.mem_append_left _ (List.mem_append_left _ (List.mem_append_left _ (List.mem_append_right _ h)))))
theorem hcX11_taken_X3 : ∀ w ∈ wsX30, w ∈ wsX11_taken := fun _ h => (List.mem_cons_of_mem _ (List.mem_append_left _ (List.mem_append_left _ (List.mem_append_right _ h))))
theorem hcX11_taken_X4 : ∀ w ∈ wsX40, w ∈ wsX11_taken := fun _ h => (List.mem_cons_of_mem _ (List.mem_append_left _ (List.mem_append_right _ h)))
theorem hcX11_taken_X10 : ∀ w ∈ wsX100, w ∈ wsX11_taken := fun _ h => (List.mem_cons_of_mem _ (List.mem_append_right _ h))
theorem hBX11_taken : xHB wsX11_taken := ⟨hcX11_taken_X0, hcX11_taken_X1, hcX11_taken_X2, hcX11_taken_X3, hcX11_taken_X4, hcX11_taken_X10⟩
set_option maxHeartbeats 4000000 in
set_option maxRecDepth 100000 in
theorem J_X11_taken {D : va_G} {KA : Nat → ClassId} {zs : ZS} {ad : Nat → Nat} {ids : List Nat} {sz : Nat} (l : Launch) (hI : ∀ c, c < 52 ∧ ¬ c = 19 → c ∈ ids) {a1 : Int32} {a2 : Int32}  {σ : St} {post : Int32 → St → Prop} (h : wX11_taken ids a1 a2 σ post) : Met l yX11_taken wsX11_taken rmX11_taken (va_Pc [.ref (ad 0), .int a1, .int a2] (xIn D KA zs layX stX ad ids sz σ)) (va_Qi post (xOut D KA layX stX ad ids) (xA ad ids sz)) 0 0 (xA ad ids sz) := by
  refine Met.ofW (cc := cX11_taken) (maxL := 4) (ret := (some .int)) (by decide) rfl ?_
  intro p e s m args below meth c s₁ B hml hv
  obtain ⟨hav, hsz, hK, hZ, hP, hD⟩ := hv
  have hx := B.exec
  have hb := B.bytes
  have hr := B.returns
  have hts := atoms_spec (ws := wsX11_taken) B.pre
  have hown : s.vm.findClass RX11 = some m.cls := findClass_of_methodNamed B.named
  have hlocks := B.notSynchronized
  subst hsz
  have hA : ∀ q : Nat, s.heap.size ≤ q → xA ad ids s.heap.size q := fun q h => Or.inr h
  have hW : xW D KA layX stX ad ids (xA ad ids s.heap.size) s.heap σ s.heap [] := ⟨hP, xA_D (D := D) hD, va_S.rf⟩
  have kr : ∀ (v : Int32) (σ : St) (H : Heap) (locs : List Loc) (ls : Array Slot) (pc : Nat), xW D KA layX stX ad ids (xA ad ids s.heap.size) s.heap σ H locs → post v σ → decode cX11_taken pc = .ok (.ireturn, 1) → W p l e rmX11_taken s m args below meth c H locs 0 0 (MQ below (va_Qi post (xOut D KA layX stX ad ids) (xA ad ids s.heap.size)) args s 0 0 (xA ad ids s.heap.size)) (F0 m pc ls [.int v]) := fun v σ H locs ls pc hW h hd => x_iret hx hb hr hlocks hW h hd
  have hl := lv_entry ([.ref (ad 0), .int a1, .int a2]) (n := 4) (Nat.le_of_ble_eq_true rfl)
  rw [show entryFrame m args 4 = entryFrame m ([.ref (ad 0), .int a1, .int a2] : List Value).toArray 4 from by rw [hav]]
  rw [lg_entry_eq]
  generalize (lg_sl ([.ref (ad 0), .int a1, .int a2]) ++ List.replicate (4 - (lg_sl ([.ref (ad 0), .int a1, .int a2])).length) Slot.unset).toArray = ls at hl ⊢
  have hl : lv_has ls 4 [(0, .ref (ad 0)), (1, .int a1), (2, .int a2)] := hl
  show W p l e rmX11_taken s m args below meth c s.heap [] 0 0 _ _
  generalize MQ below (va_Qi post (xOut D KA layX stX ad ids) (xA ad ids s.heap.size)) args s 0 0 (xA ad ids s.heap.size) = Q at kr ⊢
  have blk48 : ∀ (s0 : Int32) (σ : St) (H : Heap) (locs : List Loc) (ls : Array Slot), xW D KA layX stX ad ids (xA ad ids s.heap.size) s.heap σ H locs → lv_has ls 4 [] → wX11_taken_48 ids post s0 σ → W p l e rmX11_taken s m args below meth c H locs 0 0 Q (F0 m 48 ls [.int s0]) := by
    intro   s0 σ H locs ls hW hl h
    unfold wX11_taken_48 at h
    exact kr _ _ _ _ _ _ hW h dX11_taken_48
  have main : ∀ (H : Heap) (locs : List Loc) (ls : Array Slot), xW D KA layX stX ad ids (xA ad ids s.heap.size) s.heap σ H locs → lv_has ls 4 [(0, .ref (ad 0)), (1, .int a1), (2, .int a2)] → W p l e rmX11_taken s m args below meth c H locs 0 0 Q (F0 m 0 ls []) := by
    intro H locs ls hW hl
    unfold wX11_taken at h
    refine lv_iload_n hx hb dX11_taken_0 rfl (lv_at hl 2 rfl) ?_
    refine x_calli (va_runS (As := [.int a2]) (rest := []) ⟨hx, hb, hml, hown, hts⟩ (J_X11_isKind l hI h) (va_cwS 1 hts gX11_taken_X11_isKind rfl rfl rfl hdS_X11_isKind ⟨Nat.le_of_ble_eq_true rfl, Nat.le_of_ble_eq_true rfl⟩) (x_preS hK hZ hA hW) rfl rfl hl.1 rfl (lv_room (Nat.le_of_ble_eq_true rfl)) dX11_taken_1 ⟨Nat.zero_le _, Nat.zero_le _⟩) hW hA (fun r1002 σ1001 H locs h hW => ?_)
    try dsimp only at h
    refine lv_if_ne (tgt := 10) hx hb dX11_taken_4 (by decide) (fun c1003 => ?_) (fun c1003 => ?_)
    · have h := h.1 c1003
      refine lv_aload_n hx hb dX11_taken_10 rfl (lv_at hl 0 rfl) ?_
      refine lv_iload_n hx hb dX11_taken_11 rfl (lv_at hl 1 rfl) ?_
      refine x_calli (va_runV (As := [.int a1]) (rest := []) ⟨hx, hb, hml, hown, hts⟩ (J_X11_isBelt l hI h) (cwV 1 hts gX11_taken_X11_isBelt rfl rfl rfl hdV_X11_isBelt ⟨Nat.le_of_ble_eq_true rfl, Nat.le_of_ble_eq_true rfl⟩) (x_preV (ci := 11) hK hZ hA hW (hI 0 (by decide)) lX_0 rfl) rfl rfl hl.1 rfl (lv_room (Nat.le_of_ble_eq_true rfl)) dX11_taken_12 ⟨Nat.zero_le _, Nat.zero_le _⟩) hW hA (fun r1005 σ1004 H locs h hW => ?_)
      try dsimp only at h
      refine lv_if_ne (tgt := 21) hx hb dX11_taken_15 (by decide) (fun c1006 => ?_) (fun c1006 => ?_)
      · have h := h.1 c1006
        refine lv_aload_n hx hb dX11_taken_21 rfl (lv_at hl 0 rfl) ?_
        refine xgX11_0r hx hb hts hown hK hW 0 hcX11_taken_X11 (hI 0 (by decide)) lX_0 (hts _ hwX11_taken_0) (sX_0_0 _) dX11_taken_22 ?_
        refine xgX6_12r hx hb hts hown hK hW 1 hcX11_taken_X6 (hI 1 (by decide)) lX_1 (hts _ hwX11_taken_1) (sX_1_12 _) dX11_taken_25 ?_
        refine lv_iload_n hx hb dX11_taken_28 rfl (lv_at hl 1 rfl) ?_
        obtain ⟨hi1007, h⟩ := h
        obtain ⟨o1008, hr1009, ok_o1008, h⟩ := h
        refine x_ald hx hb hK hW 11 0 (hI 11 (by decide)) lX_11 rfl hi1007 ((sX_11 _ _).trans hr1009) dX11_taken_29 ?_
        refine lv_astore_n (lv' := [(3, .ref (ad o1008)), (0, .ref (ad 0)), (1, .int a1), (2, .int a2)]) hx hb dX11_taken_30 rfl hl (by decide) rfl (fun ls hl => ?_)
        refine lv_aload_n hx hb dX11_taken_31 rfl (lv_at hl 0 rfl) ?_
        refine lv_iload_n hx hb dX11_taken_32 rfl (lv_at hl 3 rfl) ?_
        refine x_calli (va_runS (As := [.ref (ad o1008), .int a2]) (rest := []) ⟨hx, hb, hml, hown, hts⟩ (J_X11_isOfKind l hI ok_o1008 h) (va_cwS 2 hts gX11_taken_X11_isOfKind rfl rfl rfl hdS_X11_isOfKind ⟨Nat.le_of_ble_eq_true rfl, Nat.le_of_ble_eq_true rfl⟩) (x_preS hK hZ hA hW) rfl rfl hl.1 rfl (lv_room (Nat.le_of_ble_eq_true rfl)) dX11_taken_33 ⟨Nat.zero_le _, Nat.zero_le _⟩) hW hA (fun r1011 σ1010 H locs h hW => ?_)
        try dsimp only at h
        refine lv_if_eq (tgt := 46) hx hb dX11_taken_36 (by decide) (fun c1012 => ?_) (fun c1012 => ?_)
        · have h := h.1 c1012
          refine lv_bipush (v := (-13)) hx hb dX11_taken_46 (by decide) ?_
          exact blk48   (-13 : Int32) _ _ _ _ hW (lv_sub hl [] rfl) h
        · have h := h.2 c1012
          refine lv_aload_n hx hb dX11_taken_39 rfl (lv_at hl 0 rfl) ?_
          refine xgB_3 hx hb hts hown hK hW o1008 hBX11_taken ok_o1008 (hts _ hwX11_taken_2) (fun _ h => h) dX11_taken_40 ?_
          refine lv_goto (tgt := 48) hx hb dX11_taken_43 (by decide) ?_
          exact blk48   (gI σ1010 o1008 3) _ _ _ _ hW (lv_sub hl [] rfl) h
      · have h := h.2 c1006
        refine lv_bipush (v := (-11)) hx hb dX11_taken_18 (by decide) ?_
        exact kr _ _ _ _ _ _ hW h dX11_taken_20
    · have h := h.2 c1003
      refine lv_bipush (v := (-2)) hx hb dX11_taken_7 (by decide) ?_
      exact kr _ _ _ _ _ _ hW h dX11_taken_9
  exact main _ _ _ hW hl
theorem hwX11_text_0 : (.fieldLink RX11 50 "FortyBelts" "textCount" "I" : Cond) ∈ wsX11_text := (List.mem_cons_of_mem _ (List.mem_append_left _ (List.mem_append_left _ (List.mem_append_left _ (List.mem_append_left _ (List.mem_of_getElem? (i := 0) rfl))))))
theorem hwX11_text_1 : (.fieldLink RX11 19 "FortyBelts" "reader" "LFortyBelts$Reader;" : Cond) ∈ wsX11_text := (List.mem_cons_of_mem _ (List.mem_append_left _ (List.mem_append_left _ (List.mem_append_left _ (List.mem_append_left _ (List.mem_of_getElem? (i := 1) rfl))))))
theorem hwX11_text_2 : (.fieldLink RX11 25 "FortyBelts" "texts" "[LFortyBelts$Text;" : Cond) ∈ wsX11_text := (List.mem_cons_of_mem _ (List.mem_append_left _ (List.mem_append_left _ (List.mem_append_left _ (List.mem_append_left _ (List.mem_of_getElem? (i := 2) rfl))))))
theorem hcX11_text_X11 : ∀ w ∈ wsX110, w ∈ wsX11_text := fun _ h => (List.mem_cons_of_mem _ (List.mem_append_left _ (List.mem_append_left _ (List.mem_append_right _ h))))
set_option maxHeartbeats 4000000 in
set_option maxRecDepth 100000 in
theorem J_X11_text {D : va_G} {KA : Nat → ClassId} {zs : ZS} {ad : Nat → Nat} {ids : List Nat} {sz : Nat} (l : Launch) (hI : ∀ c, c < 52 ∧ ¬ c = 19 → c ∈ ids)   {σ : St} {post : Int32 → St → Prop} (h : wX11_text ids  σ post) : Met l yX11_text wsX11_text rmX11_text (va_Pc [.ref (ad 0)] (xIn D KA zs layX stX ad ids sz σ)) (va_Qi post (xOut D KA layX stX ad ids) (xA ad ids sz)) 0 0 (xA ad ids sz) := by
  refine Met.ofW (cc := cX11_text) (maxL := 2) (ret := (some .int)) (by decide) rfl ?_
  intro p e s m args below meth c s₁ B hml hv
  obtain ⟨hav, hsz, hK, hZ, hP, hD⟩ := hv
  have hx := B.exec
  have hb := B.bytes
  have hr := B.returns
  have hts := atoms_spec (ws := wsX11_text) B.pre
  have hown : s.vm.findClass RX11 = some m.cls := findClass_of_methodNamed B.named
  have hlocks := B.notSynchronized
  subst hsz
  have hA : ∀ q : Nat, s.heap.size ≤ q → xA ad ids s.heap.size q := fun q h => Or.inr h
  have hW : xW D KA layX stX ad ids (xA ad ids s.heap.size) s.heap σ s.heap [] := ⟨hP, xA_D (D := D) hD, va_S.rf⟩
  have kr : ∀ (v : Int32) (σ : St) (H : Heap) (locs : List Loc) (ls : Array Slot) (pc : Nat), xW D KA layX stX ad ids (xA ad ids s.heap.size) s.heap σ H locs → post v σ → decode cX11_text pc = .ok (.ireturn, 1) → W p l e rmX11_text s m args below meth c H locs 0 0 (MQ below (va_Qi post (xOut D KA layX stX ad ids) (xA ad ids s.heap.size)) args s 0 0 (xA ad ids s.heap.size)) (F0 m pc ls [.int v]) := fun v σ H locs ls pc hW h hd => x_iret hx hb hr hlocks hW h hd
  have hl := lv_entry ([.ref (ad 0)]) (n := 2) (Nat.le_of_ble_eq_true rfl)
  rw [show entryFrame m args 2 = entryFrame m ([.ref (ad 0)] : List Value).toArray 2 from by rw [hav]]
  rw [lg_entry_eq]
  generalize (lg_sl ([.ref (ad 0)]) ++ List.replicate (2 - (lg_sl ([.ref (ad 0)])).length) Slot.unset).toArray = ls at hl ⊢
  have hl : lv_has ls 2 [(0, .ref (ad 0))] := hl
  show W p l e rmX11_text s m args below meth c s.heap [] 0 0 _ _
  generalize MQ below (va_Qi post (xOut D KA layX stX ad ids) (xA ad ids s.heap.size)) args s 0 0 (xA ad ids s.heap.size) = Q at kr ⊢
  have main : ∀ (H : Heap) (locs : List Loc) (ls : Array Slot), xW D KA layX stX ad ids (xA ad ids s.heap.size) s.heap σ H locs → lv_has ls 2 [(0, .ref (ad 0))] → W p l e rmX11_text s m args below meth c H locs 0 0 Q (F0 m 0 ls []) := by
    intro H locs ls hW hl
    unfold wX11_text at h
    refine lv_aload_n hx hb dX11_text_0 rfl (lv_at hl 0 rfl) ?_
    refine xgX11_3 hx hb hts hown hK hW 0 hcX11_text_X11 (hI 0 (by decide)) lX_0 (hts _ hwX11_text_0) dX11_text_1 ?_
    refine lv_bipush (v := 6) hx hb dX11_text_4 (by decide) ?_
    refine lv_icmp_ne (tgt := 12) hx hb dX11_text_6 (by decide) (fun c1001 => ?_) (fun c1001 => ?_)
    · have h := h.1 c1001
      refine lv_aload_n hx hb dX11_text_12 rfl (lv_at hl 0 rfl) ?_
      refine xgX11_1r hx hb hts hown hK hW 0 hcX11_text_X11 (hI 0 (by decide)) lX_0 (hts _ hwX11_text_1) (sX_0_1 _) dX11_text_13 ?_
      refine lv_aload_n hx hb dX11_text_16 rfl (lv_at hl 0 rfl) ?_
      refine xgX11_2r hx hb hts hown hK hW 0 hcX11_text_X11 (hI 0 (by decide)) lX_0 (hts _ hwX11_text_2) (sX_0_2 _) dX11_text_17 ?_
      refine lv_aload_n hx hb dX11_text_20 rfl (lv_at hl 0 rfl) ?_
      refine xgX11_3 hx hb hts hown hK hW 0 hcX11_text_X11 (hI 0 (by decide)) lX_0 (hts _ hwX11_text_0) dX11_text_21 ?_
      obtain ⟨hi1002, h⟩ := h
      refine x_ald hx hb hK hW 14 3 (hI 14 (by decide)) lX_14 rfl hi1002 (st_aokT hi1002) dX11_text_24 ?_
      refine x_calli (va_runV (As := [.ref (ad (20 + 4 * (gI σ 0 3).toNatClampNeg))]) (rest := []) ⟨hx, hb, hml, hown, hts⟩ (J_X7_readInto l (fun c h => hI c (n7_lt h)) (fun _ _ => rfl) (okT_of hI hi1002) h) (cwV 1 hts gX11_text_X7_readInto rfl rfl rfl hdV_X7_readInto ⟨Nat.le_of_ble_eq_true rfl, Nat.le_of_ble_eq_true rfl⟩) (x_preV (ci := 7) hK hZ hA hW (hI 2 (by decide)) lX_2 rfl) rfl rfl hl.1 rfl (lv_room (Nat.le_of_ble_eq_true rfl)) dX11_text_25 ⟨Nat.zero_le _, Nat.zero_le _⟩) hW hA (fun r1004 σ1003 H locs h hW => ?_)
      try dsimp only at h
      refine lv_istore_n (lv' := [(1, .int r1004), (0, .ref (ad 0))]) hx hb dX11_text_28 rfl hl (by decide) rfl (fun ls hl => ?_)
      refine lv_iload_n hx hb dX11_text_29 rfl (lv_at hl 0 rfl) ?_
      refine lv_iconst (v := (-1)) hx hb dX11_text_30 (by decide) ?_
      refine lv_icmp_eq (tgt := 39) hx hb dX11_text_31 (by decide) (fun c1005 => ?_) (fun c1005 => ?_)
      · have h := h.1 c1005
        refine lv_aload_n hx hb dX11_text_39 rfl (lv_at hl 1 rfl) ?_
        refine lv_dup hx hb dX11_text_40 rfl ?_
        refine xgX11_3 hx hb hts hown hK hW 0 hcX11_text_X11 (hI 0 (by decide)) lX_0 (hts _ hwX11_text_0) dX11_text_41 ?_
        refine lv_iconst (v := 1) hx hb dX11_text_44 (by decide) ?_
        refine lv_iadd hx hb dX11_text_45 ?_
        refine xpX11_3 hx hb hts hown hK hW 0 hcX11_text_X11 (hI 0 (by decide)) lX_0 (hts _ hwX11_text_0) dX11_text_46 (fun σ1006 H locs hσ1006 hW => ?_)
        have h := h σ1006 hσ1006
        refine lv_aload_n hx hb dX11_text_49 rfl (lv_at hl 1 rfl) ?_
        refine xgX11_3 hx hb hts hown hK hW 0 hcX11_text_X11 (hI 0 (by decide)) lX_0 (hts _ hwX11_text_0) dX11_text_50 ?_
        refine lv_iconst (v := 1) hx hb dX11_text_53 (by decide) ?_
        refine lv_isub hx hb dX11_text_54 ?_
        exact kr _ _ _ _ _ _ hW h dX11_text_55
      · have h := h.2 c1005
        refine lv_bipush (v := (-100)) hx hb dX11_text_34 (by decide) ?_
        refine lv_iload_n hx hb dX11_text_36 rfl (lv_at hl 0 rfl) ?_
        refine lv_isub hx hb dX11_text_37 ?_
        exact kr _ _ _ _ _ _ hW h dX11_text_38
    · have h := h.2 c1001
      refine lv_bipush (v := (-4)) hx hb dX11_text_9 (by decide) ?_
      exact kr _ _ _ _ _ _ hW h dX11_text_11
  exact main _ _ _ hW hl
theorem hwX11_throwsOn_0 : (.fieldLink RX11 167 "FortyBelts$Belt" "on" "Z" : Cond) ∈ wsX11_throwsOn := (List.mem_cons_of_mem _ (List.mem_append_left _ (List.mem_append_left _ (List.mem_append_left _ (List.mem_append_left _ (List.mem_append_left _ (List.mem_append_left _ (List.mem_append_left _ (List.mem_append_left _ (List.mem_of_getElem? (i := 2) rfl))))))))))
theorem hwX11_throwsOn_1 : (.fieldLink RX11 10 "FortyBelts" "mill" "LFortyBelts$Mill;" : Cond) ∈ wsX11_throwsOn := (List.mem_cons_of_mem _ (List.mem_append_left _ (List.mem_append_left _ (List.mem_append_left _ (List.mem_append_left _ (List.mem_append_left _ (List.mem_append_left _ (List.mem_append_left _ (List.mem_append_left _ (List.mem_of_getElem? (i := 0) rfl))))))))))
theorem hwX11_throwsOn_2 : (.fieldLink RX11 163 "FortyBelts$Mill" "belts" "[LFortyBelts$Belt;" : Cond) ∈ wsX11_throwsOn := (List.mem_cons_of_mem _ (List.mem_append_left _ (List.mem_append_left _ (List.mem_append_left _ (List.mem_append_left _ (List.mem_append_left _ (List.mem_append_left _ (List.mem_append_left _ (List.mem_append_left _ (List.mem_of_getElem? (i := 1) rfl))))))))))
theorem hcX11_throwsOn_X0 : ∀ w ∈ wsX00, w ∈ wsX11_throwsOn := fun _ h => (List.mem_cons_of_mem _ (List.mem_append_left _ (List.mem_append_left _ (List.mem_append_left _ (List.mem_append_left _ (List.mem_append_left _ (List.mem_append_right _ h)))))))
theorem hcX11_throwsOn_X1 : ∀ w ∈ wsX10, w ∈ wsX11_throwsOn := fun _ h => (List.mem_cons_of_mem _ (List.mem_append_left _ (List.mem_append_left _ (List.mem_append_left _ (List.mem_append_left _ (List.mem_append_right _ h))))))
theorem hcX11_throwsOn_X2 : ∀ w ∈ wsX20, w ∈ wsX11_throwsOn := fun _ h => (List.mem_cons_of_mem _ (List.mem_append_left _ (List.mem_append_left _ (List.mem_append_left _ (List.mem_append_right _ h)))))
theorem hcX11_throwsOn_X3 : ∀ w ∈ wsX30, w ∈ wsX11_throwsOn := fun _ h => (List.mem_cons_of_mem _ (List.mem_append_left _ (List.mem_append_left _ (List.mem_append_right _ h))))
theorem hcX11_throwsOn_X4 : ∀ w ∈ wsX40, w ∈ wsX11_throwsOn := fun _ h => (List.mem_cons_of_mem _ (List.mem_append_left _ (List.mem_append_right _ h)))
theorem hcX11_throwsOn_X10 : ∀ w ∈ wsX100, w ∈ wsX11_throwsOn := fun _ h => (List.mem_cons_of_mem _ (List.mem_append_right _ h))
theorem hcX11_throwsOn_X11 : ∀ w ∈ wsX110, w ∈ wsX11_throwsOn := fun _ h => (List.mem_cons_of_mem _ (List.mem_append_left _ (List.mem_append_left _ (List.mem_append_left _ (List.mem_append_left _ (List.mem_append_left _ (List.mem_append_left _ (List.mem_append_left _ (List.mem_append_right _ h)))))))))
theorem hcX11_throwsOn_X6 : ∀ w ∈ wsX60, w ∈ wsX11_throwsOn := fun _ h => (List.mem_cons_of_mem _ (List.mem_append_left _ (List.mem_append_left _ (List.mem_append_left _ (List.mem_append_left _ (List.mem_append_left _ (List.mem_append_left _ (List.mem_append_right _ h))))))))
theorem hBX11_throwsOn : xHB wsX11_throwsOn := ⟨hcX11_throwsOn_X0, hcX11_throwsOn_X1, hcX11_throwsOn_X2, hcX11_throwsOn_X3, hcX11_throwsOn_X4, hcX11_throwsOn_X10⟩
set_option maxHeartbeats 4000000 in
set_option maxRecDepth 100000 in
theorem J_X11_throwsOn {D : va_G} {KA : Nat → ClassId} {zs : ZS} {ad : Nat → Nat} {ids : List Nat} {sz : Nat} (l : Launch) (hI : ∀ c, c < 52 ∧ ¬ c = 19 → c ∈ ids) {a1 : Int32} {a2 : Int32}  {σ : St} {post : Int32 → St → Prop} (h : wX11_throwsOn ids a1 a2 σ post) : Met l yX11_throwsOn wsX11_throwsOn rmX11_throwsOn (va_Pc [.ref (ad 0), .int a1, .int a2] (xIn D KA zs layX stX ad ids sz σ)) (va_Qi post (xOut D KA layX stX ad ids) (xA ad ids sz)) 0 0 (xA ad ids sz) := by
  refine Met.ofW (cc := cX11_throwsOn) (maxL := 4) (ret := (some .int)) (by decide) rfl ?_
  intro p e s m args below meth c s₁ B hml hv
  obtain ⟨hav, hsz, hK, hZ, hP, hD⟩ := hv
  have hx := B.exec
  have hb := B.bytes
  have hr := B.returns
  have hts := atoms_spec (ws := wsX11_throwsOn) B.pre
  have hown : s.vm.findClass RX11 = some m.cls := findClass_of_methodNamed B.named
  have hlocks := B.notSynchronized
  subst hsz
  have hA : ∀ q : Nat, s.heap.size ≤ q → xA ad ids s.heap.size q := fun q h => Or.inr h
  have hW : xW D KA layX stX ad ids (xA ad ids s.heap.size) s.heap σ s.heap [] := ⟨hP, xA_D (D := D) hD, va_S.rf⟩
  have kr : ∀ (v : Int32) (σ : St) (H : Heap) (locs : List Loc) (ls : Array Slot) (pc : Nat), xW D KA layX stX ad ids (xA ad ids s.heap.size) s.heap σ H locs → post v σ → decode cX11_throwsOn pc = .ok (.ireturn, 1) → W p l e rmX11_throwsOn s m args below meth c H locs 0 0 (MQ below (va_Qi post (xOut D KA layX stX ad ids) (xA ad ids s.heap.size)) args s 0 0 (xA ad ids s.heap.size)) (F0 m pc ls [.int v]) := fun v σ H locs ls pc hW h hd => x_iret hx hb hr hlocks hW h hd
  have hl := lv_entry ([.ref (ad 0), .int a1, .int a2]) (n := 4) (Nat.le_of_ble_eq_true rfl)
  rw [show entryFrame m args 4 = entryFrame m ([.ref (ad 0), .int a1, .int a2] : List Value).toArray 4 from by rw [hav]]
  rw [lg_entry_eq]
  generalize (lg_sl ([.ref (ad 0), .int a1, .int a2]) ++ List.replicate (4 - (lg_sl ([.ref (ad 0), .int a1, .int a2])).length) Slot.unset).toArray = ls at hl ⊢
  have hl : lv_has ls 4 [(0, .ref (ad 0)), (1, .int a1), (2, .int a2)] := hl
  show W p l e rmX11_throwsOn s m args below meth c s.heap [] 0 0 _ _
  generalize MQ below (va_Qi post (xOut D KA layX stX ad ids) (xA ad ids s.heap.size)) args s 0 0 (xA ad ids s.heap.size) = Q at kr ⊢
  have blk55 : ∀ (x3 : Int32) (s0 : Nat) (ok_s0 : okB ids s0) (s1 : Int32) (σ : St) (H : Heap) (locs : List Loc) (ls : Array Slot), xW D KA layX stX ad ids (xA ad ids s.heap.size) s.heap σ H locs → lv_has ls 4 [(3, .int x3)] → wX11_throwsOn_55 ids post x3 s0 s1 σ → W p l e rmX11_throwsOn s m args below meth c H locs 0 0 Q (F0 m 55 ls [.int s1, .ref (ad s0)]) := by
    intro   x3 s0 ok_s0 s1 σ H locs ls hW hl h
    unfold wX11_throwsOn_55 at h
    obtain ⟨hz1, h⟩ := h
    refine xpB_8 hx hb hts hown hK hW s0 hBX11_throwsOn ok_s0 (hts _ hwX11_throwsOn_0) hz1 dX11_throwsOn_55 (fun σ2 H locs hσ2 hW => ?_)
    have h := h σ2 hσ2
    refine lv_iload_n hx hb dX11_throwsOn_58 rfl (lv_at hl 0 rfl) ?_
    exact kr _ _ _ _ _ _ hW h dX11_throwsOn_59
  have blk17 : ∀ (σ : St) (H : Heap) (locs : List Loc) (ls : Array Slot), xW D KA layX stX ad ids (xA ad ids s.heap.size) s.heap σ H locs → lv_has ls 4 [] → wX11_throwsOn_17 ids post  σ → W p l e rmX11_throwsOn s m args below meth c H locs 0 0 Q (F0 m 17 ls []) := by
    intro    σ H locs ls hW hl h
    unfold wX11_throwsOn_17 at h
    refine lv_bipush (v := (-2)) hx hb dX11_throwsOn_17 (by decide) ?_
    exact kr _ _ _ _ _ _ hW h dX11_throwsOn_19
  have main : ∀ (H : Heap) (locs : List Loc) (ls : Array Slot), xW D KA layX stX ad ids (xA ad ids s.heap.size) s.heap σ H locs → lv_has ls 4 [(0, .ref (ad 0)), (1, .int a1), (2, .int a2)] → W p l e rmX11_throwsOn s m args below meth c H locs 0 0 Q (F0 m 0 ls []) := by
    intro H locs ls hW hl
    unfold wX11_throwsOn at h
    refine lv_aload_n hx hb dX11_throwsOn_0 rfl (lv_at hl 0 rfl) ?_
    refine lv_iload_n hx hb dX11_throwsOn_1 rfl (lv_at hl 1 rfl) ?_
    refine x_calli (va_runV (As := [.int a1]) (rest := []) ⟨hx, hb, hml, hown, hts⟩ (J_X11_isBelt l hI h) (cwV 1 hts gX11_throwsOn_X11_isBelt rfl rfl rfl hdV_X11_isBelt ⟨Nat.le_of_ble_eq_true rfl, Nat.le_of_ble_eq_true rfl⟩) (x_preV (ci := 11) hK hZ hA hW (hI 0 (by decide)) lX_0 rfl) rfl rfl hl.1 rfl (lv_room (Nat.le_of_ble_eq_true rfl)) dX11_throwsOn_2 ⟨Nat.zero_le _, Nat.zero_le _⟩) hW hA (fun r1002 σ1001 H locs h hW => ?_)
    try dsimp only at h
    refine lv_if_eq (tgt := 17) hx hb dX11_throwsOn_5 (by decide) (fun c1003 => ?_) (fun c1003 => ?_)
    · have h := h.1 c1003
      exact blk17    _ _ _ _ hW (lv_sub hl [] rfl) h
    · have h := h.2 c1003
      refine lv_iload_n hx hb dX11_throwsOn_8 rfl (lv_at hl 2 rfl) ?_
      refine lv_iconst (v := 0) hx hb dX11_throwsOn_9 (by decide) ?_
      refine lv_iconst (v := 1) hx hb dX11_throwsOn_10 (by decide) ?_
      refine x_calli (va_runS (As := [.int a2, .int (0 : Int32), .int (1 : Int32)]) (rest := []) ⟨hx, hb, hml, hown, hts⟩ (J_X11_within l hI h) (va_cwS 3 hts gX11_throwsOn_X11_within rfl rfl rfl hdS_X11_within ⟨Nat.le_of_ble_eq_true rfl, Nat.le_of_ble_eq_true rfl⟩) (x_preS hK hZ hA hW) rfl rfl hl.1 rfl (lv_room (Nat.le_of_ble_eq_true rfl)) dX11_throwsOn_11 ⟨Nat.zero_le _, Nat.zero_le _⟩) hW hA (fun r1005 σ1004 H locs h hW => ?_)
      try dsimp only at h
      refine lv_if_ne (tgt := 20) hx hb dX11_throwsOn_14 (by decide) (fun c1006 => ?_) (fun c1006 => ?_)
      · have h := h.1 c1006
        refine lv_aload_n hx hb dX11_throwsOn_20 rfl (lv_at hl 0 rfl) ?_
        refine xgX11_0r hx hb hts hown hK hW 0 hcX11_throwsOn_X11 (hI 0 (by decide)) lX_0 (hts _ hwX11_throwsOn_1) (sX_0_0 _) dX11_throwsOn_21 ?_
        refine xgX6_12r hx hb hts hown hK hW 1 hcX11_throwsOn_X6 (hI 1 (by decide)) lX_1 (hts _ hwX11_throwsOn_2) (sX_1_12 _) dX11_throwsOn_24 ?_
        refine lv_iload_n hx hb dX11_throwsOn_27 rfl (lv_at hl 1 rfl) ?_
        obtain ⟨hi1007, h⟩ := h
        obtain ⟨o1008, hr1009, ok_o1008, h⟩ := h
        refine x_ald hx hb hK hW 11 0 (hI 11 (by decide)) lX_11 rfl hi1007 ((sX_11 _ _).trans hr1009) dX11_throwsOn_28 ?_
        refine xgB_8 hx hb hts hown hK hW o1008 hBX11_throwsOn ok_o1008 (hts _ hwX11_throwsOn_0) (fun _ h => h) dX11_throwsOn_29 ?_
        refine x_calli (va_runS (As := [.int (gI σ1004 o1008 8)]) (rest := []) ⟨hx, hb, hml, hown, hts⟩ (J_X11_asBit l hI h) (va_cwS 1 hts gX11_throwsOn_X11_asBit rfl rfl rfl hdS_X11_asBit ⟨Nat.le_of_ble_eq_true rfl, Nat.le_of_ble_eq_true rfl⟩) (x_preS hK hZ hA hW) rfl rfl hl.1 rfl (lv_room (Nat.le_of_ble_eq_true rfl)) dX11_throwsOn_32 ⟨Nat.zero_le _, Nat.zero_le _⟩) hW hA (fun r1011 σ1010 H locs h hW => ?_)
        try dsimp only at h
        refine lv_istore_n (lv' := [(3, .int r1011), (0, .ref (ad 0)), (1, .int a1), (2, .int a2)]) hx hb dX11_throwsOn_35 rfl hl (by decide) rfl (fun ls hl => ?_)
        refine lv_aload_n hx hb dX11_throwsOn_36 rfl (lv_at hl 1 rfl) ?_
        refine xgX11_0r hx hb hts hown hK hW 0 hcX11_throwsOn_X11 (hI 0 (by decide)) lX_0 (hts _ hwX11_throwsOn_1) (sX_0_0 _) dX11_throwsOn_37 ?_
        refine xgX6_12r hx hb hts hown hK hW 1 hcX11_throwsOn_X6 (hI 1 (by decide)) lX_1 (hts _ hwX11_throwsOn_2) (sX_1_12 _) dX11_throwsOn_40 ?_
        refine lv_iload_n hx hb dX11_throwsOn_43 rfl (lv_at hl 2 rfl) ?_
        obtain ⟨o1013, hr1014, ok_o1013, h⟩ := h
        refine x_ald hx hb hK hW 11 0 (hI 11 (by decide)) lX_11 rfl hi1007 ((sX_11 _ _).trans hr1014) dX11_throwsOn_44 ?_
        refine lv_iload_n hx hb dX11_throwsOn_45 rfl (lv_at hl 3 rfl) ?_
        refine lv_iconst (v := 1) hx hb dX11_throwsOn_46 (by decide) ?_
        refine lv_icmp_ne (tgt := 54) hx hb dX11_throwsOn_47 (by decide) (fun c1015 => ?_) (fun c1015 => ?_)
        · have h := h.1 c1015
          refine lv_iconst (v := 0) hx hb dX11_throwsOn_54 (by decide) ?_
          exact blk55   r1011 o1013 ok_o1013 (0 : Int32) _ _ _ _ hW (lv_sub hl [0] rfl) h
        · have h := h.2 c1015
          refine lv_iconst (v := 1) hx hb dX11_throwsOn_50 (by decide) ?_
          refine lv_goto (tgt := 55) hx hb dX11_throwsOn_51 (by decide) ?_
          exact blk55   r1011 o1013 ok_o1013 (1 : Int32) _ _ _ _ hW (lv_sub hl [0] rfl) h
      · have h := h.2 c1006
        exact blk17    _ _ _ _ hW (lv_sub hl [] rfl) h
  exact main _ _ _ hW hl
theorem hwX2_length_0 : (.sameField "FortyBelts$Crossed" "FortyBelts$Belt" "a" "I" : Cond) ∈ wsX2_length := (List.mem_cons_of_mem _ (List.mem_append_left _ (List.mem_append_left _ (List.mem_append_left _ (List.mem_append_left _ (List.mem_append_left _ (List.mem_append_left _ (List.mem_of_getElem? (i := 1) rfl))))))))
theorem hwX2_length_1 : (.fieldLink RX2 17 "FortyBelts$Crossed" "a" "I" : Cond) ∈ wsX2_length := (List.mem_cons_of_mem _ (List.mem_append_left _ (List.mem_append_left _ (List.mem_append_left _ (List.mem_append_left _ (List.mem_append_left _ (List.mem_append_left _ (List.mem_of_getElem? (i := 0) rfl))))))))
theorem hwX2_length_2 : (.sameField "FortyBelts$Crossed" "FortyBelts$Belt" "b" "I" : Cond) ∈ wsX2_length := (List.mem_cons_of_mem _ (List.mem_append_left _ (List.mem_append_left _ (List.mem_append_left _ (List.mem_append_left _ (List.mem_append_left _ (List.mem_append_left _ (List.mem_of_getElem? (i := 3) rfl))))))))
theorem hwX2_length_3 : (.fieldLink RX2 21 "FortyBelts$Crossed" "b" "I" : Cond) ∈ wsX2_length := (List.mem_cons_of_mem _ (List.mem_append_left _ (List.mem_append_left _ (List.mem_append_left _ (List.mem_append_left _ (List.mem_append_left _ (List.mem_append_left _ (List.mem_of_getElem? (i := 2) rfl))))))))
theorem hcX2_length_X0 : ∀ w ∈ wsX00, w ∈ wsX2_length := fun _ h => (List.mem_cons_of_mem _ (List.mem_append_left _ (List.mem_append_left _ (List.mem_append_left _ (List.mem_append_left _ (List.mem_append_left _ (List.mem_append_right _ h)))))))
theorem hcX2_length_X1 : ∀ w ∈ wsX10, w ∈ wsX2_length := fun _ h => (List.mem_cons_of_mem _ (List.mem_append_left _ (List.mem_append_left _ (List.mem_append_left _ (List.mem_append_left _ (List.mem_append_right _ h))))))
theorem hcX2_length_X2 : ∀ w ∈ wsX20, w ∈ wsX2_length := fun _ h => (List.mem_cons_of_mem _ (List.mem_append_left _ (List.mem_append_left _ (List.mem_append_left _ (List.mem_append_right _ h)))))
theorem hcX2_length_X3 : ∀ w ∈ wsX30, w ∈ wsX2_length := fun _ h => (List.mem_cons_of_mem _ (List.mem_append_left _ (List.mem_append_left _ (List.mem_append_right _ h))))
theorem hcX2_length_X4 : ∀ w ∈ wsX40, w ∈ wsX2_length := fun _ h => (List.mem_cons_of_mem _ (List.mem_append_left _ (List.mem_append_right _ h)))
theorem hcX2_length_X10 : ∀ w ∈ wsX100, w ∈ wsX2_length := fun _ h => (List.mem_cons_of_mem _ (List.mem_append_right _ h))
theorem hBX2_length : xHB wsX2_length := ⟨hcX2_length_X0, hcX2_length_X1, hcX2_length_X2, hcX2_length_X3, hcX2_length_X4, hcX2_length_X10⟩
set_option maxHeartbeats 4000000 in
set_option maxRecDepth 100000 in
theorem J_X2_length {D : va_G} {KA : Nat → ClassId} {zs : ZS} {ad : Nat → Nat} {ids : List Nat} {sz : Nat} (l : Launch) (hI : ∀ c, c < 52 ∧ ¬ c = 19 → c ∈ ids) {a0 : Nat} {a1 : Int32} (ok_a0 : okB ids a0) (hkap : a0 % 8 = 1 ∨ a0 % 8 = 5) {σ : St} {post : Int32 → St → Prop} (h : wX2_length ids a0 a1 σ post) : Met l yX2_length wsX2_length rmX2_length (va_Pc [.ref (ad a0), .int a1] (xIn D KA zs layX stX ad ids sz σ)) (va_Qi post (xOut D KA layX stX ad ids) (xA ad ids sz)) 0 0 (xA ad ids sz) := by
  refine Met.ofW (cc := cX2_length) (maxL := 2) (ret := (some .int)) (by decide) rfl ?_
  intro p e s m args below meth c s₁ B hml hv
  obtain ⟨hav, hsz, hK, hZ, hP, hD⟩ := hv
  have hx := B.exec
  have hb := B.bytes
  have hr := B.returns
  have hts := atoms_spec (ws := wsX2_length) B.pre
  have hown : s.vm.findClass RX2 = some m.cls := findClass_of_methodNamed B.named
  have hlocks := B.notSynchronized
  subst hsz
  have hA : ∀ q : Nat, s.heap.size ≤ q → xA ad ids s.heap.size q := fun q h => Or.inr h
  have hW : xW D KA layX stX ad ids (xA ad ids s.heap.size) s.heap σ s.heap [] := ⟨hP, xA_D (D := D) hD, va_S.rf⟩
  have kr : ∀ (v : Int32) (σ : St) (H : Heap) (locs : List Loc) (ls : Array Slot) (pc : Nat), xW D KA layX stX ad ids (xA ad ids s.heap.size) s.heap σ H locs → post v σ → decode cX2_length pc = .ok (.ireturn, 1) → W p l e rmX2_length s m args below meth c H locs 0 0 (MQ below (va_Qi post (xOut D KA layX stX ad ids) (xA ad ids s.heap.size)) args s 0 0 (xA ad ids s.heap.size)) (F0 m pc ls [.int v]) := fun v σ H locs ls pc hW h hd => x_iret hx hb hr hlocks hW h hd
  have hl := lv_entry ([.ref (ad a0), .int a1]) (n := 2) (Nat.le_of_ble_eq_true rfl)
  rw [show entryFrame m args 2 = entryFrame m ([.ref (ad a0), .int a1] : List Value).toArray 2 from by rw [hav]]
  rw [lg_entry_eq]
  generalize (lg_sl ([.ref (ad a0), .int a1]) ++ List.replicate (2 - (lg_sl ([.ref (ad a0), .int a1])).length) Slot.unset).toArray = ls at hl ⊢
  have hl : lv_has ls 2 [(0, .ref (ad a0)), (1, .int a1)] := hl
  show W p l e rmX2_length s m args below meth c s.heap [] 0 0 _ _
  generalize MQ below (va_Qi post (xOut D KA layX stX ad ids) (xA ad ids s.heap.size)) args s 0 0 (xA ad ids s.heap.size) = Q at kr ⊢
  have main : ∀ (H : Heap) (locs : List Loc) (ls : Array Slot), xW D KA layX stX ad ids (xA ad ids s.heap.size) s.heap σ H locs → lv_has ls 2 [(0, .ref (ad a0)), (1, .int a1)] → W p l e rmX2_length s m args below meth c H locs 0 0 Q (F0 m 0 ls []) := by
    intro H locs ls hW hl
    unfold wX2_length at h
    refine lv_aload_n hx hb dX2_length_0 rfl (lv_at hl 0 rfl) ?_
    refine lv_iload_n hx hb dX2_length_1 rfl (lv_at hl 1 rfl) ?_
    have hr1001 : ∀ post : Int32 → St → Prop, wX0_plainLength ids a0 a1 σ post → va_Run p l e rmX2_length s m args below meth c H locs 0 0 0 0 (F0 m 2 ls ([.int a1].reverse ++ .ref (ad a0) :: [])) [] (va_Qi post (xOut D KA layX stX ad ids) (xA ad ids H.size) (Value.ref (ad a0) :: [.int a1]).toArray) (xA ad ids H.size) := by
      intro post h
      rcases hkap with hq | hq
      · exact va_runU (As := [.int a1]) (rest := []) ⟨hx, hb, hml, hown, hts⟩ (J_X0_plainLength l hI ok_a0 h) (va_cwU 1 hts gX2_length_X0_plainLength_u11X2 rfl rfl rfl rfl (by decide +kernel) ⟨Nat.le_of_ble_eq_true rfl, Nat.le_of_ble_eq_true rfl⟩) (x_preV (ci := 2) hK hZ hA hW ok_a0.1 (lay_okB1 ok_a0 hq) rfl) rfl rfl hl.1 rfl (lv_room (Nat.le_of_ble_eq_true rfl)) dX2_length_2 ⟨Nat.zero_le _, Nat.zero_le _⟩
      · exact va_runU (As := [.int a1]) (rest := []) ⟨hx, hb, hml, hown, hts⟩ (J_X0_plainLength l hI ok_a0 h) (va_cwU 1 hts gX2_length_X0_plainLength_u11X10 rfl rfl rfl rfl (by decide +kernel) ⟨Nat.le_of_ble_eq_true rfl, Nat.le_of_ble_eq_true rfl⟩) (x_preV (ci := 10) hK hZ hA hW ok_a0.1 (lay_okB5 ok_a0 hq) rfl) rfl rfl hl.1 rfl (lv_room (Nat.le_of_ble_eq_true rfl)) dX2_length_2 ⟨Nat.zero_le _, Nat.zero_le _⟩
    refine x_calli (hr1001 _ h) hW hA (fun r1003 σ1002 H locs h hW => ?_)
    try dsimp only at h
    refine lv_aload_n hx hb dX2_length_5 rfl (lv_at hl 0 rfl) ?_
    refine xgB_6 hx hb hts hown hK hW a0 hBX2_length ok_a0 (hts _ hwX2_length_1) (fun x h => u_same (hts _ hwX2_length_0) x h) dX2_length_6 ?_
    refine lv_iadd hx hb dX2_length_9 ?_
    refine lv_aload_n hx hb dX2_length_10 rfl (lv_at hl 0 rfl) ?_
    refine xgB_7 hx hb hts hown hK hW a0 hBX2_length ok_a0 (hts _ hwX2_length_3) (fun x h => u_same (hts _ hwX2_length_2) x h) dX2_length_11 ?_
    refine lv_iadd hx hb dX2_length_14 ?_
    exact kr _ _ _ _ _ _ hW h dX2_length_15
  exact main _ _ _ hW hl
set_option maxHeartbeats 4000000 in
set_option maxRecDepth 100000 in
theorem J_X3_length {D : va_G} {KA : Nat → ClassId} {zs : ZS} {ad : Nat → Nat} {ids : List Nat} {sz : Nat} (l : Launch) (hI : ∀ c, c < 52 ∧ ¬ c = 19 → c ∈ ids) {a0 : Nat} {a1 : Int32} (ok_a0 : okB ids a0) (hkap : a0 % 8 = 2) {σ : St} {post : Int32 → St → Prop} (h : wX3_length ids a0 a1 σ post) : Met l yX3_length wsX3_length rmX3_length (va_Pc [.ref (ad a0), .int a1] (xIn D KA zs layX stX ad ids sz σ)) (va_Qi post (xOut D KA layX stX ad ids) (xA ad ids sz)) 0 0 (xA ad ids sz) := by
  refine Met.ofW (cc := cX3_length) (maxL := 2) (ret := (some .int)) (by decide) rfl ?_
  intro p e s m args below meth c s₁ B hml hv
  obtain ⟨hav, hsz, hK, hZ, hP, hD⟩ := hv
  have hx := B.exec
  have hb := B.bytes
  have hr := B.returns
  have hts := atoms_spec (ws := wsX3_length) B.pre
  have hown : s.vm.findClass RX3 = some m.cls := findClass_of_methodNamed B.named
  have hlocks := B.notSynchronized
  subst hsz
  have hA : ∀ q : Nat, s.heap.size ≤ q → xA ad ids s.heap.size q := fun q h => Or.inr h
  have hW : xW D KA layX stX ad ids (xA ad ids s.heap.size) s.heap σ s.heap [] := ⟨hP, xA_D (D := D) hD, va_S.rf⟩
  have kr : ∀ (v : Int32) (σ : St) (H : Heap) (locs : List Loc) (ls : Array Slot) (pc : Nat), xW D KA layX stX ad ids (xA ad ids s.heap.size) s.heap σ H locs → post v σ → decode cX3_length pc = .ok (.ireturn, 1) → W p l e rmX3_length s m args below meth c H locs 0 0 (MQ below (va_Qi post (xOut D KA layX stX ad ids) (xA ad ids s.heap.size)) args s 0 0 (xA ad ids s.heap.size)) (F0 m pc ls [.int v]) := fun v σ H locs ls pc hW h hd => x_iret hx hb hr hlocks hW h hd
  have hl := lv_entry ([.ref (ad a0), .int a1]) (n := 2) (Nat.le_of_ble_eq_true rfl)
  rw [show entryFrame m args 2 = entryFrame m ([.ref (ad a0), .int a1] : List Value).toArray 2 from by rw [hav]]
  rw [lg_entry_eq]
  generalize (lg_sl ([.ref (ad a0), .int a1]) ++ List.replicate (2 - (lg_sl ([.ref (ad a0), .int a1])).length) Slot.unset).toArray = ls at hl ⊢
  have hl : lv_has ls 2 [(0, .ref (ad a0)), (1, .int a1)] := hl
  show W p l e rmX3_length s m args below meth c s.heap [] 0 0 _ _
  generalize MQ below (va_Qi post (xOut D KA layX stX ad ids) (xA ad ids s.heap.size)) args s 0 0 (xA ad ids s.heap.size) = Q at kr ⊢
  have main : ∀ (H : Heap) (locs : List Loc) (ls : Array Slot), xW D KA layX stX ad ids (xA ad ids s.heap.size) s.heap σ H locs → lv_has ls 2 [(0, .ref (ad a0)), (1, .int a1)] → W p l e rmX3_length s m args below meth c H locs 0 0 Q (F0 m 0 ls []) := by
    intro H locs ls hW hl
    unfold wX3_length at h
    refine lv_aload_n hx hb dX3_length_0 rfl (lv_at hl 0 rfl) ?_
    refine lv_iload_n hx hb dX3_length_1 rfl (lv_at hl 1 rfl) ?_
    have hr1001 : ∀ post : Int32 → St → Prop, wX0_plainLength ids a0 a1 σ post → va_Run p l e rmX3_length s m args below meth c H locs 0 0 0 0 (F0 m 2 ls ([.int a1].reverse ++ .ref (ad a0) :: [])) [] (va_Qi post (xOut D KA layX stX ad ids) (xA ad ids H.size) (Value.ref (ad a0) :: [.int a1]).toArray) (xA ad ids H.size) := by
      intro post h
      have hq := hkap
      · exact va_runU (As := [.int a1]) (rest := []) ⟨hx, hb, hml, hown, hts⟩ (J_X0_plainLength l hI ok_a0 h) (va_cwU 1 hts gX3_length_X0_plainLength_u11X3 rfl rfl rfl rfl (by decide +kernel) ⟨Nat.le_of_ble_eq_true rfl, Nat.le_of_ble_eq_true rfl⟩) (x_preV (ci := 3) hK hZ hA hW ok_a0.1 (lay_okB2 ok_a0 hq) rfl) rfl rfl hl.1 rfl (lv_room (Nat.le_of_ble_eq_true rfl)) dX3_length_2 ⟨Nat.zero_le _, Nat.zero_le _⟩
    refine x_calli (hr1001 _ h) hW hA (fun r1003 σ1002 H locs h hW => ?_)
    try dsimp only at h
    refine lv_bipush (v := 10) hx hb dX3_length_5 (by decide) ?_
    refine lv_iadd hx hb dX3_length_7 ?_
    exact kr _ _ _ _ _ _ hW h dX3_length_8
  exact main _ _ _ hW hl
set_option maxHeartbeats 4000000 in
set_option maxRecDepth 100000 in
theorem J_X4_length {D : va_G} {KA : Nat → ClassId} {zs : ZS} {ad : Nat → Nat} {ids : List Nat} {sz : Nat} (l : Launch) (hI : ∀ c, c < 52 ∧ ¬ c = 19 → c ∈ ids) {a0 : Nat} {a1 : Int32} (ok_a0 : okB ids a0) (hkap : a0 % 8 = 4) {σ : St} {post : Int32 → St → Prop} (h : wX4_length ids a0 a1 σ post) : Met l yX4_length wsX4_length rmX4_length (va_Pc [.ref (ad a0), .int a1] (xIn D KA zs layX stX ad ids sz σ)) (va_Qi post (xOut D KA layX stX ad ids) (xA ad ids sz)) 0 0 (xA ad ids sz) := by
  refine Met.ofW (cc := cX4_length) (maxL := 2) (ret := (some .int)) (by decide) rfl ?_
  intro p e s m args below meth c s₁ B hml hv
  obtain ⟨hav, hsz, hK, hZ, hP, hD⟩ := hv
  have hx := B.exec
  have hb := B.bytes
  have hr := B.returns
  have hts := atoms_spec (ws := wsX4_length) B.pre
  have hown : s.vm.findClass RX4 = some m.cls := findClass_of_methodNamed B.named
  have hlocks := B.notSynchronized
  subst hsz
  have hA : ∀ q : Nat, s.heap.size ≤ q → xA ad ids s.heap.size q := fun q h => Or.inr h
  have hW : xW D KA layX stX ad ids (xA ad ids s.heap.size) s.heap σ s.heap [] := ⟨hP, xA_D (D := D) hD, va_S.rf⟩
  have kr : ∀ (v : Int32) (σ : St) (H : Heap) (locs : List Loc) (ls : Array Slot) (pc : Nat), xW D KA layX stX ad ids (xA ad ids s.heap.size) s.heap σ H locs → post v σ → decode cX4_length pc = .ok (.ireturn, 1) → W p l e rmX4_length s m args below meth c H locs 0 0 (MQ below (va_Qi post (xOut D KA layX stX ad ids) (xA ad ids s.heap.size)) args s 0 0 (xA ad ids s.heap.size)) (F0 m pc ls [.int v]) := fun v σ H locs ls pc hW h hd => x_iret hx hb hr hlocks hW h hd
  have hl := lv_entry ([.ref (ad a0), .int a1]) (n := 2) (Nat.le_of_ble_eq_true rfl)
  rw [show entryFrame m args 2 = entryFrame m ([.ref (ad a0), .int a1] : List Value).toArray 2 from by rw [hav]]
  rw [lg_entry_eq]
  generalize (lg_sl ([.ref (ad a0), .int a1]) ++ List.replicate (2 - (lg_sl ([.ref (ad a0), .int a1])).length) Slot.unset).toArray = ls at hl ⊢
  have hl : lv_has ls 2 [(0, .ref (ad a0)), (1, .int a1)] := hl
  show W p l e rmX4_length s m args below meth c s.heap [] 0 0 _ _
  generalize MQ below (va_Qi post (xOut D KA layX stX ad ids) (xA ad ids s.heap.size)) args s 0 0 (xA ad ids s.heap.size) = Q at kr ⊢
  have main : ∀ (H : Heap) (locs : List Loc) (ls : Array Slot), xW D KA layX stX ad ids (xA ad ids s.heap.size) s.heap σ H locs → lv_has ls 2 [(0, .ref (ad a0)), (1, .int a1)] → W p l e rmX4_length s m args below meth c H locs 0 0 Q (F0 m 0 ls []) := by
    intro H locs ls hW hl
    unfold wX4_length at h
    refine lv_aload_n hx hb dX4_length_0 rfl (lv_at hl 0 rfl) ?_
    refine lv_iload_n hx hb dX4_length_1 rfl (lv_at hl 1 rfl) ?_
    have hr1001 : ∀ post : Int32 → St → Prop, wX0_plainLength ids a0 a1 σ post → va_Run p l e rmX4_length s m args below meth c H locs 0 0 0 0 (F0 m 2 ls ([.int a1].reverse ++ .ref (ad a0) :: [])) [] (va_Qi post (xOut D KA layX stX ad ids) (xA ad ids H.size) (Value.ref (ad a0) :: [.int a1]).toArray) (xA ad ids H.size) := by
      intro post h
      have hq := hkap
      · exact va_runU (As := [.int a1]) (rest := []) ⟨hx, hb, hml, hown, hts⟩ (J_X0_plainLength l hI ok_a0 h) (va_cwU 1 hts gX4_length_X0_plainLength_u11X4 rfl rfl rfl rfl (by decide +kernel) ⟨Nat.le_of_ble_eq_true rfl, Nat.le_of_ble_eq_true rfl⟩) (x_preV (ci := 4) hK hZ hA hW ok_a0.1 (lay_okB4 ok_a0 hq) rfl) rfl rfl hl.1 rfl (lv_room (Nat.le_of_ble_eq_true rfl)) dX4_length_2 ⟨Nat.zero_le _, Nat.zero_le _⟩
    refine x_calli (hr1001 _ h) hW hA (fun r1003 σ1002 H locs h hW => ?_)
    try dsimp only at h
    exact kr _ _ _ _ _ _ hW h dX4_length_5
  exact main _ _ _ hW hl
theorem hwX6_apart_0 : (.fieldLink RX6 11 "FortyBelts$Mill" "places" "[I" : Cond) ∈ wsX6_apart := (List.mem_cons_of_mem _ (List.mem_append_left _ (List.mem_append_left _ (List.mem_append_left _ (List.mem_append_left _ (List.mem_append_left _ (List.mem_append_left _ (List.mem_append_left _ (List.mem_of_getElem? (i := 0) rfl)))))))))
theorem hwX6_apart_1 : (.fieldLink RX6 86 "FortyBelts$Belt" "driver" "I" : Cond) ∈ wsX6_apart := (List.mem_cons_of_mem _ (List.mem_append_left _ (List.mem_append_left _ (List.mem_append_left _ (List.mem_append_left _ (List.mem_append_left _ (List.mem_append_left _ (List.mem_append_left _ (List.mem_of_getElem? (i := 1) rfl)))))))))
theorem hwX6_apart_2 : (.fieldLink RX6 68 "FortyBelts$Belt" "driven" "I" : Cond) ∈ wsX6_apart := (List.mem_cons_of_mem _ (List.mem_append_left _ (List.mem_append_left _ (List.mem_append_left _ (List.mem_append_left _ (List.mem_append_left _ (List.mem_append_left _ (List.mem_append_left _ (List.mem_of_getElem? (i := 2) rfl)))))))))
theorem hwX6_apart_3 : (.methodLink RX6 112 Lib.Math.abs.name : Cond) ∈ wsX6_apart := (List.mem_cons_of_mem _ (List.mem_append_left _ (List.mem_append_left _ (List.mem_append_left _ (List.mem_append_left _ (List.mem_append_left _ (List.mem_append_left _ (List.mem_append_left _ (List.mem_of_getElem? (i := 3) rfl)))))))))
theorem hwX6_apart_4 : (.static Lib.Math.abs.name : Cond) ∈ wsX6_apart := (List.mem_cons_of_mem _ (List.mem_append_left _ (List.mem_append_left _ (List.mem_append_left _ (List.mem_append_left _ (List.mem_append_left _ (List.mem_append_left _ (List.mem_append_left _ (List.mem_of_getElem? (i := 4) rfl)))))))))
theorem hwX6_apart_5 : (.initialized "java/lang/Math" : Cond) ∈ wsX6_apart := (List.mem_cons_of_mem _ (List.mem_append_left _ (List.mem_append_left _ (List.mem_append_left _ (List.mem_append_left _ (List.mem_append_left _ (List.mem_append_left _ (List.mem_append_left _ (List.mem_of_getElem? (i := 5) rfl)))))))))
theorem hwX6_apart_6 : (.code Lib.Math.abs.name Lib.Math.abs.code 1 (some .int) : Cond) ∈ wsX6_apart := (List.mem_cons_of_mem _ (List.mem_append_left _ (List.mem_append_left _ (List.mem_append_left _ (List.mem_append_left _ (List.mem_append_left _ (List.mem_append_left _ (List.mem_append_left _ (List.mem_of_getElem? (i := 6) rfl)))))))))
theorem hcX6_apart_X6 : ∀ w ∈ wsX60, w ∈ wsX6_apart := fun _ h => (List.mem_cons_of_mem _ (List.mem_append_left _ (List.mem_append_left _ (List.mem_append_left _ (List.mem_append_left _ (List.mem_append_left _ (List.mem_append_left _ (List.mem_append_right _ h))))))))
theorem hcX6_apart_X0 : ∀ w ∈ wsX00, w ∈ wsX6_apart := fun _ h => (List.mem_cons_of_mem _ (List.mem_append_left _ (List.mem_append_left _ (List.mem_append_left _ (List.mem_append_left _ (List.mem_append_left _ (List.mem_append_right _ h)))))))
theorem hcX6_apart_X1 : ∀ w ∈ wsX10, w ∈ wsX6_apart := fun _ h => (List.mem_cons_of_mem _ (List.mem_append_left _ (List.mem_append_left _ (List.mem_append_left _ (List.mem_append_left _ (List.mem_append_right _ h))))))
theorem hcX6_apart_X2 : ∀ w ∈ wsX20, w ∈ wsX6_apart := fun _ h => (List.mem_cons_of_mem _ (List.mem_append_left _ (List.mem_append_left _ (List.mem_append_left _ (List.mem_append_right _ h)))))
theorem hcX6_apart_X3 : ∀ w ∈ wsX30, w ∈ wsX6_apart := fun _ h => (List.mem_cons_of_mem _ (List.mem_append_left _ (List.mem_append_left _ (List.mem_append_right _ h))))
theorem hcX6_apart_X4 : ∀ w ∈ wsX40, w ∈ wsX6_apart := fun _ h => (List.mem_cons_of_mem _ (List.mem_append_left _ (List.mem_append_right _ h)))
theorem hcX6_apart_X10 : ∀ w ∈ wsX100, w ∈ wsX6_apart := fun _ h => (List.mem_cons_of_mem _ (List.mem_append_right _ h))
theorem hBX6_apart : xHB wsX6_apart := ⟨hcX6_apart_X0, hcX6_apart_X1, hcX6_apart_X2, hcX6_apart_X3, hcX6_apart_X4, hcX6_apart_X10⟩
set_option maxHeartbeats 4000000 in
set_option maxRecDepth 100000 in
theorem J_X6_apart {D : va_G} {KA : Nat → ClassId} {zs : ZS} {ad : Nat → Nat} {ids : List Nat} {sz : Nat} (l : Launch) (hI : ∀ c, c < 52 ∧ ¬ c = 19 → c ∈ ids) {a1 : Nat} (ok_a1 : okB ids a1) {σ : St} {post : Int32 → St → Prop} (h : wX6_apart ids a1 σ post) : Met l yX6_apart wsX6_apart rmX6_apart (va_Pc [.ref (ad 1), .ref (ad a1)] (xIn D KA zs layX stX ad ids sz σ)) (va_Qi post (xOut D KA layX stX ad ids) (xA ad ids sz)) 0 0 (xA ad ids sz) := by
  refine Met.ofW (cc := cX6_apart) (maxL := 2) (ret := (some .int)) (by decide) rfl ?_
  intro p e s m args below meth c s₁ B hml hv
  obtain ⟨hav, hsz, hK, hZ, hP, hD⟩ := hv
  have hx := B.exec
  have hb := B.bytes
  have hr := B.returns
  have hts := atoms_spec (ws := wsX6_apart) B.pre
  have hown : s.vm.findClass RX6 = some m.cls := findClass_of_methodNamed B.named
  have hlocks := B.notSynchronized
  subst hsz
  have hA : ∀ q : Nat, s.heap.size ≤ q → xA ad ids s.heap.size q := fun q h => Or.inr h
  have hW : xW D KA layX stX ad ids (xA ad ids s.heap.size) s.heap σ s.heap [] := ⟨hP, xA_D (D := D) hD, va_S.rf⟩
  have kr : ∀ (v : Int32) (σ : St) (H : Heap) (locs : List Loc) (ls : Array Slot) (pc : Nat), xW D KA layX stX ad ids (xA ad ids s.heap.size) s.heap σ H locs → post v σ → decode cX6_apart pc = .ok (.ireturn, 1) → W p l e rmX6_apart s m args below meth c H locs 0 0 (MQ below (va_Qi post (xOut D KA layX stX ad ids) (xA ad ids s.heap.size)) args s 0 0 (xA ad ids s.heap.size)) (F0 m pc ls [.int v]) := fun v σ H locs ls pc hW h hd => x_iret hx hb hr hlocks hW h hd
  have hl := lv_entry ([.ref (ad 1), .ref (ad a1)]) (n := 2) (Nat.le_of_ble_eq_true rfl)
  rw [show entryFrame m args 2 = entryFrame m ([.ref (ad 1), .ref (ad a1)] : List Value).toArray 2 from by rw [hav]]
  rw [lg_entry_eq]
  generalize (lg_sl ([.ref (ad 1), .ref (ad a1)]) ++ List.replicate (2 - (lg_sl ([.ref (ad 1), .ref (ad a1)])).length) Slot.unset).toArray = ls at hl ⊢
  have hl : lv_has ls 2 [(0, .ref (ad 1)), (1, .ref (ad a1))] := hl
  show W p l e rmX6_apart s m args below meth c s.heap [] 0 0 _ _
  generalize MQ below (va_Qi post (xOut D KA layX stX ad ids) (xA ad ids s.heap.size)) args s 0 0 (xA ad ids s.heap.size) = Q at kr ⊢
  have main : ∀ (H : Heap) (locs : List Loc) (ls : Array Slot), xW D KA layX stX ad ids (xA ad ids s.heap.size) s.heap σ H locs → lv_has ls 2 [(0, .ref (ad 1)), (1, .ref (ad a1))] → W p l e rmX6_apart s m args below meth c H locs 0 0 Q (F0 m 0 ls []) := by
    intro H locs ls hW hl
    unfold wX6_apart at h
    refine lv_aload_n hx hb dX6_apart_0 rfl (lv_at hl 0 rfl) ?_
    refine xgX6_4r hx hb hts hown hK hW 1 hcX6_apart_X6 (hI 1 (by decide)) lX_1 (hts _ hwX6_apart_0) (sX_1_4 _) dX6_apart_1 ?_
    refine lv_aload_n hx hb dX6_apart_4 rfl (lv_at hl 1 rfl) ?_
    refine xgB_1 hx hb hts hown hK hW a1 hBX6_apart ok_a1 (hts _ hwX6_apart_1) (fun _ h => h) dX6_apart_5 ?_
    obtain ⟨hi1001, h⟩ := h
    refine x_iald hx hb hK hW 3 (hI 3 (by decide)) lX_3 hi1001 dX6_apart_8 ?_
    refine lv_aload_n hx hb dX6_apart_9 rfl (lv_at hl 0 rfl) ?_
    refine xgX6_4r hx hb hts hown hK hW 1 hcX6_apart_X6 (hI 1 (by decide)) lX_1 (hts _ hwX6_apart_0) (sX_1_4 _) dX6_apart_10 ?_
    refine lv_aload_n hx hb dX6_apart_13 rfl (lv_at hl 1 rfl) ?_
    refine xgB_2 hx hb hts hown hK hW a1 hBX6_apart ok_a1 (hts _ hwX6_apart_2) (fun _ h => h) dX6_apart_14 ?_
    obtain ⟨hi1002, h⟩ := h
    refine x_iald hx hb hK hW 3 (hI 3 (by decide)) lX_3 hi1002 dX6_apart_17 ?_
    refine lv_isub hx hb dX6_apart_18 ?_
    refine va_mabs hx hb (hml.trans hl.1.symm) hown (hts _ hwX6_apart_3) (hts _ hwX6_apart_4) (hts _ hwX6_apart_5) (hts _ hwX6_apart_6) (Nat.le_of_ble_eq_true rfl) (Nat.le_of_ble_eq_true rfl) (Nat.le_of_ble_eq_true rfl) (Nat.le_of_ble_eq_true rfl) dX6_apart_19 ?_
    exact kr _ _ _ _ _ _ hW h dX6_apart_22
  exact main _ _ _ hW hl
theorem hwX11_told_0 : (.fieldLink RX11 10 "FortyBelts" "mill" "LFortyBelts$Mill;" : Cond) ∈ wsX11_told := (List.mem_cons_of_mem _ (List.mem_append_left _ (List.mem_append_left _ (List.mem_append_left _ (List.mem_append_left _ (List.mem_append_left _ (List.mem_append_left _ (List.mem_append_left _ (List.mem_append_left _ (List.mem_append_left _ (List.mem_append_left _ (List.mem_append_left _ (List.mem_of_getElem? (i := 0) rfl)))))))))))))
theorem hwX11_told_1 : (.fieldLink RX11 163 "FortyBelts$Mill" "belts" "[LFortyBelts$Belt;" : Cond) ∈ wsX11_told := (List.mem_cons_of_mem _ (List.mem_append_left _ (List.mem_append_left _ (List.mem_append_left _ (List.mem_append_left _ (List.mem_append_left _ (List.mem_append_left _ (List.mem_append_left _ (List.mem_append_left _ (List.mem_append_left _ (List.mem_append_left _ (List.mem_append_left _ (List.mem_of_getElem? (i := 1) rfl)))))))))))))
theorem hwX11_told_2 : (.fieldLink RX11 179 "FortyBelts$Belt" "kind" "I" : Cond) ∈ wsX11_told := (List.mem_cons_of_mem _ (List.mem_append_left _ (List.mem_append_left _ (List.mem_append_left _ (List.mem_append_left _ (List.mem_append_left _ (List.mem_append_left _ (List.mem_append_left _ (List.mem_append_left _ (List.mem_append_left _ (List.mem_append_left _ (List.mem_append_left _ (List.mem_of_getElem? (i := 2) rfl)))))))))))))
theorem hwX11_told_3 : (.fieldLink RX11 182 "FortyBelts$Belt" "driver" "I" : Cond) ∈ wsX11_told := (List.mem_cons_of_mem _ (List.mem_append_left _ (List.mem_append_left _ (List.mem_append_left _ (List.mem_append_left _ (List.mem_append_left _ (List.mem_append_left _ (List.mem_append_left _ (List.mem_append_left _ (List.mem_append_left _ (List.mem_append_left _ (List.mem_append_left _ (List.mem_of_getElem? (i := 3) rfl)))))))))))))
theorem hwX11_told_4 : (.fieldLink RX11 185 "FortyBelts$Belt" "driven" "I" : Cond) ∈ wsX11_told := (List.mem_cons_of_mem _ (List.mem_append_left _ (List.mem_append_left _ (List.mem_append_left _ (List.mem_append_left _ (List.mem_append_left _ (List.mem_append_left _ (List.mem_append_left _ (List.mem_append_left _ (List.mem_append_left _ (List.mem_append_left _ (List.mem_append_left _ (List.mem_of_getElem? (i := 4) rfl)))))))))))))
theorem hwX11_told_5 : (.fieldLink RX11 170 "FortyBelts$Belt" "driverDrum" "I" : Cond) ∈ wsX11_told := (List.mem_cons_of_mem _ (List.mem_append_left _ (List.mem_append_left _ (List.mem_append_left _ (List.mem_append_left _ (List.mem_append_left _ (List.mem_append_left _ (List.mem_append_left _ (List.mem_append_left _ (List.mem_append_left _ (List.mem_append_left _ (List.mem_append_left _ (List.mem_of_getElem? (i := 5) rfl)))))))))))))
theorem hwX11_told_6 : (.fieldLink RX11 173 "FortyBelts$Belt" "drivenDrum" "I" : Cond) ∈ wsX11_told := (List.mem_cons_of_mem _ (List.mem_append_left _ (List.mem_append_left _ (List.mem_append_left _ (List.mem_append_left _ (List.mem_append_left _ (List.mem_append_left _ (List.mem_append_left _ (List.mem_append_left _ (List.mem_append_left _ (List.mem_append_left _ (List.mem_append_left _ (List.mem_of_getElem? (i := 6) rfl)))))))))))))
theorem hwX11_told_7 : (.fieldLink RX11 167 "FortyBelts$Belt" "on" "Z" : Cond) ∈ wsX11_told := (List.mem_cons_of_mem _ (List.mem_append_left _ (List.mem_append_left _ (List.mem_append_left _ (List.mem_append_left _ (List.mem_append_left _ (List.mem_append_left _ (List.mem_append_left _ (List.mem_append_left _ (List.mem_append_left _ (List.mem_append_left _ (List.mem_append_left _ (List.mem_of_getElem? (i := 7) rfl)))))))))))))
theorem hwX11_told_8 : (.code yX0_way cX0_way 1 (some .int) : Cond) ∈ wsX11_told := (List.mem_cons_of_mem _ (List.mem_append_left _ (List.mem_append_left _ (List.mem_append_left _ (List.mem_append_left _ (List.mem_append_left _ (List.mem_append_left _ (List.mem_append_left _ (List.mem_append_left _ (List.mem_append_left _ (List.mem_append_left _ (List.mem_append_right _ (List.mem_append_right _ (List.mem_append_left _ (List.mem_of_getElem? (i := 19) rfl)))))))))))))))
theorem hwX11_told_9 : (.code yX0_wrap cX0_wrap 1 (some .int) : Cond) ∈ wsX11_told := (List.mem_cons_of_mem _ (List.mem_append_left _ (List.mem_append_left _ (List.mem_append_left _ (List.mem_append_left _ (List.mem_append_left _ (List.mem_append_left _ (List.mem_append_left _ (List.mem_append_left _ (List.mem_append_left _ (List.mem_append_left _ (List.mem_append_right _ (List.mem_append_right _ (List.mem_append_right _ (List.mem_append_left _ (List.mem_of_getElem? (i := 21) rfl))))))))))))))))
theorem hwX11_told_10 : (.code yX0_length cX0_length 2 (some .int) : Cond) ∈ wsX11_told := (List.mem_cons_of_mem _ (List.mem_append_left _ (List.mem_append_left _ (List.mem_append_left _ (List.mem_append_left _ (List.mem_append_left _ (List.mem_append_left _ (List.mem_append_left _ (List.mem_append_left _ (List.mem_append_left _ (List.mem_append_left _ (List.mem_append_right _ (List.mem_append_right _ (List.mem_append_right _ (List.mem_append_right _ (List.mem_append_right _ (List.mem_append_left _ (List.mem_of_getElem? (i := 17) rfl))))))))))))))))))
theorem hcX11_told_X11 : ∀ w ∈ wsX110, w ∈ wsX11_told := fun _ h => (List.mem_cons_of_mem _ (List.mem_append_left _ (List.mem_append_left _ (List.mem_append_left _ (List.mem_append_left _ (List.mem_append_left _ (List.mem_append_left _ (List.mem_append_left _ (List.mem_append_left _ (List.mem_append_left _ (List.mem_append_right _ h)))))))))))
theorem hcX11_told_X6 : ∀ w ∈ wsX60, w ∈ wsX11_told := fun _ h => (List.mem_cons_of_mem _ (List.mem_append_left _ (List.mem_append_left _ (List.mem_append_left _ (List.mem_append_left _ (List.mem_append_left _ (List.mem_append_left _ (List.mem_append_left _ (List.mem_append_left _ (List.mem_append_right _ h))))))))))
theorem hcX11_told_X0 : ∀ w ∈ wsX00, w ∈ wsX11_told := fun _ h => (List.mem_cons_of_mem _ (List.mem_append_left _ (List.mem_append_left _ (List.mem_append_left _ (List.mem_append_left _ (List.mem_append_left _ (List.mem_append_left _ (List.mem_append_left _ (List.mem_append_right _ h)))))))))
theorem hcX11_told_X1 : ∀ w ∈ wsX10, w ∈ wsX11_told := fun _ h => (List.mem_cons_of_mem _ (List.mem_append_left _ (List.mem_append_left _ (List.mem_append_left _ (List.mem_append_left _ (List.mem_append_left _ (List.mem_append_left _ (List.mem_append_right _ h))))))))
theorem hcX11_told_X2 : ∀ w ∈ wsX20, w ∈ wsX11_told := fun _ h => (List.mem_cons_of_mem _ (List.mem_append_left _ (List.mem_append_left _ (List.mem_append_left _ (List.mem_append_left _ (List.mem_append_left _ (List.mem_append_right _ h)))))))
theorem hcX11_told_X3 : ∀ w ∈ wsX30, w ∈ wsX11_told := fun _ h => (List.mem_cons_of_mem _ (List.mem_append_left _ (List.mem_append_left _ (List.mem_append_left _ (List.mem_append_left _ (List.mem_append_right _ h))))))
theorem hcX11_told_X4 : ∀ w ∈ wsX40, w ∈ wsX11_told := fun _ h => (List.mem_cons_of_mem _ (List.mem_append_left _ (List.mem_append_left _ (List.mem_append_left _ (List.mem_append_right _ h)))))
theorem hcX11_told_X10 : ∀ w ∈ wsX100, w ∈ wsX11_told := fun _ h => (List.mem_cons_of_mem _ (List.mem_append_left _ (List.mem_append_left _ (List.mem_append_right _ h))))
theorem hBX11_told : xHB wsX11_told := ⟨hcX11_told_X0, hcX11_told_X1, hcX11_told_X2, hcX11_told_X3, hcX11_told_X4, hcX11_told_X10⟩
set_option maxHeartbeats 4000000 in
set_option maxRecDepth 100000 in
theorem J_X11_told {D : va_G} {KA : Nat → ClassId} {zs : ZS} {ad : Nat → Nat} {ids : List Nat} {sz : Nat} (l : Launch) (hI : ∀ c, c < 52 ∧ ¬ c = 19 → c ∈ ids) {a1 : Int32} {a2 : Int32}  {σ : St} {post : Int32 → St → Prop} (h : wX11_told ids a1 a2 σ post) : Met l yX11_told wsX11_told rmX11_told (va_Pc [.ref (ad 0), .int a1, .int a2] (xIn D KA zs layX stX ad ids sz σ)) (va_Qi post (xOut D KA layX stX ad ids) (xA ad ids sz)) 0 0 (xA ad ids sz) := by
  refine Met.ofW (cc := cX11_told) (maxL := 4) (ret := (some .int)) (by decide) rfl ?_
  intro p e s m args below meth c s₁ B hml hv
  obtain ⟨hav, hsz, hK, hZ, hP, hD⟩ := hv
  have hx := B.exec
  have hb := B.bytes
  have hr := B.returns
  have hts := atoms_spec (ws := wsX11_told) B.pre
  have hown : s.vm.findClass RX11 = some m.cls := findClass_of_methodNamed B.named
  have hlocks := B.notSynchronized
  subst hsz
  have hA : ∀ q : Nat, s.heap.size ≤ q → xA ad ids s.heap.size q := fun q h => Or.inr h
  have hW : xW D KA layX stX ad ids (xA ad ids s.heap.size) s.heap σ s.heap [] := ⟨hP, xA_D (D := D) hD, va_S.rf⟩
  have kr : ∀ (v : Int32) (σ : St) (H : Heap) (locs : List Loc) (ls : Array Slot) (pc : Nat), xW D KA layX stX ad ids (xA ad ids s.heap.size) s.heap σ H locs → post v σ → decode cX11_told pc = .ok (.ireturn, 1) → W p l e rmX11_told s m args below meth c H locs 0 0 (MQ below (va_Qi post (xOut D KA layX stX ad ids) (xA ad ids s.heap.size)) args s 0 0 (xA ad ids s.heap.size)) (F0 m pc ls [.int v]) := fun v σ H locs ls pc hW h hd => x_iret hx hb hr hlocks hW h hd
  have hl := lv_entry ([.ref (ad 0), .int a1, .int a2]) (n := 4) (Nat.le_of_ble_eq_true rfl)
  rw [show entryFrame m args 4 = entryFrame m ([.ref (ad 0), .int a1, .int a2] : List Value).toArray 4 from by rw [hav]]
  rw [lg_entry_eq]
  generalize (lg_sl ([.ref (ad 0), .int a1, .int a2]) ++ List.replicate (4 - (lg_sl ([.ref (ad 0), .int a1, .int a2])).length) Slot.unset).toArray = ls at hl ⊢
  have hl : lv_has ls 4 [(0, .ref (ad 0)), (1, .int a1), (2, .int a2)] := hl
  show W p l e rmX11_told s m args below meth c s.heap [] 0 0 _ _
  generalize MQ below (va_Qi post (xOut D KA layX stX ad ids) (xA ad ids s.heap.size)) args s 0 0 (xA ad ids s.heap.size) = Q at kr ⊢
  have main : ∀ (H : Heap) (locs : List Loc) (ls : Array Slot), xW D KA layX stX ad ids (xA ad ids s.heap.size) s.heap σ H locs → lv_has ls 4 [(0, .ref (ad 0)), (1, .int a1), (2, .int a2)] → W p l e rmX11_told s m args below meth c H locs 0 0 Q (F0 m 0 ls []) := by
    intro H locs ls hW hl
    unfold wX11_told at h
    refine lv_aload_n hx hb dX11_told_0 rfl (lv_at hl 0 rfl) ?_
    refine lv_iload_n hx hb dX11_told_1 rfl (lv_at hl 1 rfl) ?_
    refine x_calli (va_runV (As := [.int a1]) (rest := []) ⟨hx, hb, hml, hown, hts⟩ (J_X11_isBelt l hI h) (cwV 1 hts gX11_told_X11_isBelt rfl rfl rfl hdV_X11_isBelt ⟨Nat.le_of_ble_eq_true rfl, Nat.le_of_ble_eq_true rfl⟩) (x_preV (ci := 11) hK hZ hA hW (hI 0 (by decide)) lX_0 rfl) rfl rfl hl.1 rfl (lv_room (Nat.le_of_ble_eq_true rfl)) dX11_told_2 ⟨Nat.zero_le _, Nat.zero_le _⟩) hW hA (fun r1002 σ1001 H locs h hW => ?_)
    try dsimp only at h
    refine lv_if_ne (tgt := 11) hx hb dX11_told_5 (by decide) (fun c1003 => ?_) (fun c1003 => ?_)
    · have h := h.1 c1003
      refine lv_aload_n hx hb dX11_told_11 rfl (lv_at hl 0 rfl) ?_
      refine xgX11_0r hx hb hts hown hK hW 0 hcX11_told_X11 (hI 0 (by decide)) lX_0 (hts _ hwX11_told_0) (sX_0_0 _) dX11_told_12 ?_
      refine x_callv (va_runV (As := []) (rest := []) ⟨hx, hb, hml, hown, hts⟩ (J_X6_spin l hI h) (cwV 0 hts gX11_told_X6_spin rfl rfl rfl hdV_X6_spin ⟨Nat.le_of_ble_eq_true rfl, Nat.le_of_ble_eq_true rfl⟩) (x_preV (ci := 6) hK hZ hA hW (hI 1 (by decide)) lX_1 rfl) rfl rfl hl.1 rfl (lv_room (Nat.le_of_ble_eq_true rfl)) dX11_told_15 ⟨Nat.zero_le _, Nat.zero_le _⟩) hW hA (fun σ1004 H locs h hW => ?_)
      try dsimp only at h
      refine lv_aload_n hx hb dX11_told_18 rfl (lv_at hl 0 rfl) ?_
      refine xgX11_0r hx hb hts hown hK hW 0 hcX11_told_X11 (hI 0 (by decide)) lX_0 (hts _ hwX11_told_0) (sX_0_0 _) dX11_told_19 ?_
      refine xgX6_12r hx hb hts hown hK hW 1 hcX11_told_X6 (hI 1 (by decide)) lX_1 (hts _ hwX11_told_1) (sX_1_12 _) dX11_told_22 ?_
      refine lv_iload_n hx hb dX11_told_25 rfl (lv_at hl 1 rfl) ?_
      obtain ⟨hi1005, h⟩ := h
      obtain ⟨o1006, hr1007, ok_o1006, h⟩ := h
      refine x_ald hx hb hK hW 11 0 (hI 11 (by decide)) lX_11 rfl hi1005 ((sX_11 _ _).trans hr1007) dX11_told_26 ?_
      refine lv_astore_n (lv' := [(3, .ref (ad o1006)), (0, .ref (ad 0)), (1, .int a1), (2, .int a2)]) hx hb dX11_told_27 rfl hl (by decide) rfl (fun ls hl => ?_)
      refine lv_iload_n hx hb dX11_told_28 rfl (lv_at hl 3 rfl) ?_
      refine lv_topi (fun v1008 hv1008 => ?_)
      have h := h v1008 hv1008
      obtain ⟨hcase, h⟩ := h
      by_cases hc29_0 : v1008 = (0 : Int32)
      · have h := hcase hc29_0
        clear hcase
        refine lv_tableIn (tgt := 92) hx hb dX11_told_29 (by rw [hc29_0] <;> decide) (by rw [hc29_0] <;> decide) (by rw [hc29_0]; rfl) (by decide) ?_
        refine lv_aload_n hx hb dX11_told_92 rfl (lv_at hl 0 rfl) ?_
        refine xgB_0 hx hb hts hown hK hW o1006 hBX11_told ok_o1006 (hts _ hwX11_told_2) (fun _ h => h) dX11_told_93 ?_
        exact kr _ _ _ _ _ _ hW h dX11_told_96
      clear hcase
      obtain ⟨hcase, h⟩ := h
      by_cases hc29_1 : v1008 = (1 : Int32)
      · have h := hcase hc29_1
        clear hcase
        refine lv_tableIn (tgt := 97) hx hb dX11_told_29 (by rw [hc29_1] <;> decide) (by rw [hc29_1] <;> decide) (by rw [hc29_1]; rfl) (by decide) ?_
        refine lv_aload_n hx hb dX11_told_97 rfl (lv_at hl 0 rfl) ?_
        refine xgB_1 hx hb hts hown hK hW o1006 hBX11_told ok_o1006 (hts _ hwX11_told_3) (fun _ h => h) dX11_told_98 ?_
        exact kr _ _ _ _ _ _ hW h dX11_told_101
      clear hcase
      obtain ⟨hcase, h⟩ := h
      by_cases hc29_2 : v1008 = (2 : Int32)
      · have h := hcase hc29_2
        clear hcase
        refine lv_tableIn (tgt := 102) hx hb dX11_told_29 (by rw [hc29_2] <;> decide) (by rw [hc29_2] <;> decide) (by rw [hc29_2]; rfl) (by decide) ?_
        refine lv_aload_n hx hb dX11_told_102 rfl (lv_at hl 0 rfl) ?_
        refine xgB_2 hx hb hts hown hK hW o1006 hBX11_told ok_o1006 (hts _ hwX11_told_4) (fun _ h => h) dX11_told_103 ?_
        exact kr _ _ _ _ _ _ hW h dX11_told_106
      clear hcase
      obtain ⟨hcase, h⟩ := h
      by_cases hc29_3 : v1008 = (3 : Int32)
      · have h := hcase hc29_3
        clear hcase
        refine lv_tableIn (tgt := 107) hx hb dX11_told_29 (by rw [hc29_3] <;> decide) (by rw [hc29_3] <;> decide) (by rw [hc29_3]; rfl) (by decide) ?_
        refine lv_aload_n hx hb dX11_told_107 rfl (lv_at hl 0 rfl) ?_
        refine xgB_4 hx hb hts hown hK hW o1006 hBX11_told ok_o1006 (hts _ hwX11_told_5) (fun _ h => h) dX11_told_108 ?_
        exact kr _ _ _ _ _ _ hW h dX11_told_111
      clear hcase
      obtain ⟨hcase, h⟩ := h
      by_cases hc29_4 : v1008 = (4 : Int32)
      · have h := hcase hc29_4
        clear hcase
        refine lv_tableIn (tgt := 112) hx hb dX11_told_29 (by rw [hc29_4] <;> decide) (by rw [hc29_4] <;> decide) (by rw [hc29_4]; rfl) (by decide) ?_
        refine lv_aload_n hx hb dX11_told_112 rfl (lv_at hl 0 rfl) ?_
        refine xgB_5 hx hb hts hown hK hW o1006 hBX11_told ok_o1006 (hts _ hwX11_told_6) (fun _ h => h) dX11_told_113 ?_
        exact kr _ _ _ _ _ _ hW h dX11_told_116
      clear hcase
      obtain ⟨hcase, h⟩ := h
      by_cases hc29_5 : v1008 = (5 : Int32)
      · have h := hcase hc29_5
        clear hcase
        refine lv_tableIn (tgt := 117) hx hb dX11_told_29 (by rw [hc29_5] <;> decide) (by rw [hc29_5] <;> decide) (by rw [hc29_5]; rfl) (by decide) ?_
        refine lv_aload_n hx hb dX11_told_117 rfl (lv_at hl 0 rfl) ?_
        refine xgB_8 hx hb hts hown hK hW o1006 hBX11_told ok_o1006 (hts _ hwX11_told_7) (fun _ h => h) dX11_told_118 ?_
        refine x_calli (va_runS (As := [.int (gI σ1004 o1006 8)]) (rest := []) ⟨hx, hb, hml, hown, hts⟩ (J_X11_asBit l hI h) (va_cwS 1 hts gX11_told_X11_asBit rfl rfl rfl hdS_X11_asBit ⟨Nat.le_of_ble_eq_true rfl, Nat.le_of_ble_eq_true rfl⟩) (x_preS hK hZ hA hW) rfl rfl hl.1 rfl (lv_room (Nat.le_of_ble_eq_true rfl)) dX11_told_121 ⟨Nat.zero_le _, Nat.zero_le _⟩) hW hA (fun r1010 σ1009 H locs h hW => ?_)
        try dsimp only at h
        exact kr _ _ _ _ _ _ hW h dX11_told_124
      clear hcase
      obtain ⟨hcase, h⟩ := h
      by_cases hc29_6 : v1008 = (6 : Int32)
      · have h := hcase hc29_6
        clear hcase
        refine lv_tableIn (tgt := 125) hx hb dX11_told_29 (by rw [hc29_6] <;> decide) (by rw [hc29_6] <;> decide) (by rw [hc29_6]; rfl) (by decide) ?_
        refine lv_aload_n hx hb dX11_told_125 rfl (lv_at hl 0 rfl) ?_
        have hr1011 : ∀ post : Int32 → St → Prop, wB_way ids o1006 σ1004 post → va_Run p l e rmX11_told s m args below meth c H locs 0 0 0 0 (F0 m 126 ls ([].reverse ++ .ref (ad o1006) :: [])) [] (va_Qi post (xOut D KA layX stX ad ids) (xA ad ids H.size) (Value.ref (ad o1006) :: []).toArray) (xA ad ids H.size) := by
          intro post h
          unfold wB_way at h
          rcases (okB_cases ok_o1006) with hq | hq | hq | hq | hq | hq
          · exact va_runV (As := []) (rest := []) ⟨hx, hb, hml, hown, hts⟩ (J_X0_way l hI ok_o1006 (h.1 (Or.inl hq))) (cwV 0 hts gX11_told_X0_way rfl rfl rfl hdV_X0_way ⟨Nat.le_of_ble_eq_true rfl, Nat.le_of_ble_eq_true rfl⟩) (x_preV (ci := 0) hK hZ hA hW ok_o1006.1 (lay_okB0 ok_o1006 hq) rfl) rfl rfl hl.1 rfl (lv_room (Nat.le_of_ble_eq_true rfl)) dX11_told_126 ⟨Nat.zero_le _, Nat.zero_le _⟩
          · exact va_runU (As := []) (rest := []) ⟨hx, hb, hml, hown, hts⟩ (J_X2_way l hI ok_o1006 (h.2.1 hq)) (va_cwO 0 hts gX11_told_X2_way_u188X2 rfl rfl rfl hwX11_told_8 (by decide +kernel) ⟨Nat.le_of_ble_eq_true rfl, Nat.le_of_ble_eq_true rfl⟩) (x_preV (ci := 2) hK hZ hA hW ok_o1006.1 (lay_okB1 ok_o1006 hq) rfl) rfl rfl hl.1 rfl (lv_room (Nat.le_of_ble_eq_true rfl)) dX11_told_126 ⟨Nat.zero_le _, Nat.zero_le _⟩
          · exact va_runU (As := []) (rest := []) ⟨hx, hb, hml, hown, hts⟩ (J_X0_way l hI ok_o1006 (h.1 (Or.inr (Or.inl hq)))) (va_cwU 0 hts gX11_told_X0_way_u188X3 rfl rfl rfl rfl (by decide +kernel) ⟨Nat.le_of_ble_eq_true rfl, Nat.le_of_ble_eq_true rfl⟩) (x_preV (ci := 3) hK hZ hA hW ok_o1006.1 (lay_okB2 ok_o1006 hq) rfl) rfl rfl hl.1 rfl (lv_room (Nat.le_of_ble_eq_true rfl)) dX11_told_126 ⟨Nat.zero_le _, Nat.zero_le _⟩
          · exact va_runU (As := []) (rest := []) ⟨hx, hb, hml, hown, hts⟩ (J_X0_way l hI ok_o1006 (h.1 (Or.inr (Or.inr (Or.inl hq))))) (va_cwU 0 hts gX11_told_X0_way_u188X1 rfl rfl rfl rfl (by decide +kernel) ⟨Nat.le_of_ble_eq_true rfl, Nat.le_of_ble_eq_true rfl⟩) (x_preV (ci := 1) hK hZ hA hW ok_o1006.1 (lay_okB3 ok_o1006 hq) rfl) rfl rfl hl.1 rfl (lv_room (Nat.le_of_ble_eq_true rfl)) dX11_told_126 ⟨Nat.zero_le _, Nat.zero_le _⟩
          · exact va_runU (As := []) (rest := []) ⟨hx, hb, hml, hown, hts⟩ (J_X0_way l hI ok_o1006 (h.1 (Or.inr (Or.inr (Or.inr hq))))) (va_cwU 0 hts gX11_told_X0_way_u188X4 rfl rfl rfl rfl (by decide +kernel) ⟨Nat.le_of_ble_eq_true rfl, Nat.le_of_ble_eq_true rfl⟩) (x_preV (ci := 4) hK hZ hA hW ok_o1006.1 (lay_okB4 ok_o1006 hq) rfl) rfl rfl hl.1 rfl (lv_room (Nat.le_of_ble_eq_true rfl)) dX11_told_126 ⟨Nat.zero_le _, Nat.zero_le _⟩
          · exact va_runU (As := []) (rest := []) ⟨hx, hb, hml, hown, hts⟩ (J_X10_way l hI ok_o1006 (h.2.2 hq)) (va_cwO 0 hts gX11_told_X10_way_u188X10 rfl rfl rfl hwX11_told_8 (by decide +kernel) ⟨Nat.le_of_ble_eq_true rfl, Nat.le_of_ble_eq_true rfl⟩) (x_preV (ci := 10) hK hZ hA hW ok_o1006.1 (lay_okB5 ok_o1006 hq) rfl) rfl rfl hl.1 rfl (lv_room (Nat.le_of_ble_eq_true rfl)) dX11_told_126 ⟨Nat.zero_le _, Nat.zero_le _⟩
        refine x_calli (hr1011 _ h) hW hA (fun r1013 σ1012 H locs h hW => ?_)
        try dsimp only at h
        exact kr _ _ _ _ _ _ hW h dX11_told_129
      clear hcase
      obtain ⟨hcase, h⟩ := h
      by_cases hc29_7 : v1008 = (7 : Int32)
      · have h := hcase hc29_7
        clear hcase
        refine lv_tableIn (tgt := 130) hx hb dX11_told_29 (by rw [hc29_7] <;> decide) (by rw [hc29_7] <;> decide) (by rw [hc29_7]; rfl) (by decide) ?_
        refine lv_aload_n hx hb dX11_told_130 rfl (lv_at hl 0 rfl) ?_
        have hr1014 : ∀ post : Int32 → St → Prop, wB_wrap ids o1006 σ1004 post → va_Run p l e rmX11_told s m args below meth c H locs 0 0 0 0 (F0 m 131 ls ([].reverse ++ .ref (ad o1006) :: [])) [] (va_Qi post (xOut D KA layX stX ad ids) (xA ad ids H.size) (Value.ref (ad o1006) :: []).toArray) (xA ad ids H.size) := by
          intro post h
          unfold wB_wrap at h
          rcases (okB_cases ok_o1006) with hq | hq | hq | hq | hq | hq
          · exact va_runV (As := []) (rest := []) ⟨hx, hb, hml, hown, hts⟩ (J_X0_wrap l hI ok_o1006 (h.1 (Or.inl hq))) (cwV 0 hts gX11_told_X0_wrap rfl rfl rfl hdV_X0_wrap ⟨Nat.le_of_ble_eq_true rfl, Nat.le_of_ble_eq_true rfl⟩) (x_preV (ci := 0) hK hZ hA hW ok_o1006.1 (lay_okB0 ok_o1006 hq) rfl) rfl rfl hl.1 rfl (lv_room (Nat.le_of_ble_eq_true rfl)) dX11_told_131 ⟨Nat.zero_le _, Nat.zero_le _⟩
          · exact va_runU (As := []) (rest := []) ⟨hx, hb, hml, hown, hts⟩ (J_X2_wrap l hI ok_o1006 (h.2.1 hq)) (va_cwO 0 hts gX11_told_X2_wrap_u191X2 rfl rfl rfl hwX11_told_9 (by decide +kernel) ⟨Nat.le_of_ble_eq_true rfl, Nat.le_of_ble_eq_true rfl⟩) (x_preV (ci := 2) hK hZ hA hW ok_o1006.1 (lay_okB1 ok_o1006 hq) rfl) rfl rfl hl.1 rfl (lv_room (Nat.le_of_ble_eq_true rfl)) dX11_told_131 ⟨Nat.zero_le _, Nat.zero_le _⟩
          · exact va_runU (As := []) (rest := []) ⟨hx, hb, hml, hown, hts⟩ (J_X3_wrap l hI ok_o1006 (h.2.2.1 hq)) (va_cwO 0 hts gX11_told_X3_wrap_u191X3 rfl rfl rfl hwX11_told_9 (by decide +kernel) ⟨Nat.le_of_ble_eq_true rfl, Nat.le_of_ble_eq_true rfl⟩) (x_preV (ci := 3) hK hZ hA hW ok_o1006.1 (lay_okB2 ok_o1006 hq) rfl) rfl rfl hl.1 rfl (lv_room (Nat.le_of_ble_eq_true rfl)) dX11_told_131 ⟨Nat.zero_le _, Nat.zero_le _⟩
          · exact va_runU (As := []) (rest := []) ⟨hx, hb, hml, hown, hts⟩ (J_X0_wrap l hI ok_o1006 (h.1 (Or.inr hq))) (va_cwU 0 hts gX11_told_X0_wrap_u191X1 rfl rfl rfl rfl (by decide +kernel) ⟨Nat.le_of_ble_eq_true rfl, Nat.le_of_ble_eq_true rfl⟩) (x_preV (ci := 1) hK hZ hA hW ok_o1006.1 (lay_okB3 ok_o1006 hq) rfl) rfl rfl hl.1 rfl (lv_room (Nat.le_of_ble_eq_true rfl)) dX11_told_131 ⟨Nat.zero_le _, Nat.zero_le _⟩
          · exact va_runU (As := []) (rest := []) ⟨hx, hb, hml, hown, hts⟩ (J_X4_wrap l hI ok_o1006 (h.2.2.2.1 hq)) (va_cwO 0 hts gX11_told_X4_wrap_u191X4 rfl rfl rfl hwX11_told_9 (by decide +kernel) ⟨Nat.le_of_ble_eq_true rfl, Nat.le_of_ble_eq_true rfl⟩) (x_preV (ci := 4) hK hZ hA hW ok_o1006.1 (lay_okB4 ok_o1006 hq) rfl) rfl rfl hl.1 rfl (lv_room (Nat.le_of_ble_eq_true rfl)) dX11_told_131 ⟨Nat.zero_le _, Nat.zero_le _⟩
          · exact va_runU (As := []) (rest := []) ⟨hx, hb, hml, hown, hts⟩ (J_X10_wrap l hI ok_o1006 (h.2.2.2.2 hq)) (va_cwO 0 hts gX11_told_X10_wrap_u191X10 rfl rfl rfl hwX11_told_9 (by decide +kernel) ⟨Nat.le_of_ble_eq_true rfl, Nat.le_of_ble_eq_true rfl⟩) (x_preV (ci := 10) hK hZ hA hW ok_o1006.1 (lay_okB5 ok_o1006 hq) rfl) rfl rfl hl.1 rfl (lv_room (Nat.le_of_ble_eq_true rfl)) dX11_told_131 ⟨Nat.zero_le _, Nat.zero_le _⟩
        refine x_calli (hr1014 _ h) hW hA (fun r1016 σ1015 H locs h hW => ?_)
        try dsimp only at h
        exact kr _ _ _ _ _ _ hW h dX11_told_134
      clear hcase
      obtain ⟨hcase, h⟩ := h
      by_cases hc29_8 : v1008 = (8 : Int32)
      · have h := hcase hc29_8
        clear hcase
        refine lv_tableIn (tgt := 135) hx hb dX11_told_29 (by rw [hc29_8] <;> decide) (by rw [hc29_8] <;> decide) (by rw [hc29_8]; rfl) (by decide) ?_
        refine lv_aload_n hx hb dX11_told_135 rfl (lv_at hl 0 rfl) ?_
        refine lv_aload_n hx hb dX11_told_136 rfl (lv_at hl 1 rfl) ?_
        refine xgX11_0r hx hb hts hown hK hW 0 hcX11_told_X11 (hI 0 (by decide)) lX_0 (hts _ hwX11_told_0) (sX_0_0 _) dX11_told_137 ?_
        refine lv_aload_n hx hb dX11_told_140 rfl (lv_at hl 0 rfl) ?_
        refine x_calli (va_runV (As := [.ref (ad o1006)]) (rest := [.ref (ad o1006)]) ⟨hx, hb, hml, hown, hts⟩ (J_X6_apart l hI ok_o1006 h) (cwV 1 hts gX11_told_X6_apart rfl rfl rfl hdV_X6_apart ⟨Nat.le_of_ble_eq_true rfl, Nat.le_of_ble_eq_true rfl⟩) (x_preV (ci := 6) hK hZ hA hW (hI 1 (by decide)) lX_1 rfl) rfl rfl hl.1 rfl (lv_room (Nat.le_of_ble_eq_true rfl)) dX11_told_141 ⟨Nat.zero_le _, Nat.zero_le _⟩) hW hA (fun r1018 σ1017 H locs h hW => ?_)
        try dsimp only at h
        have hr1019 : ∀ post : Int32 → St → Prop, wB_length ids o1006 r1018 σ1017 post → va_Run p l e rmX11_told s m args below meth c H locs 0 0 0 0 (F0 m 144 ls ([.int r1018].reverse ++ .ref (ad o1006) :: [])) [] (va_Qi post (xOut D KA layX stX ad ids) (xA ad ids H.size) (Value.ref (ad o1006) :: [.int r1018]).toArray) (xA ad ids H.size) := by
          intro post h
          unfold wB_length at h
          rcases (okB_cases ok_o1006) with hq | hq | hq | hq | hq | hq
          · exact va_runV (As := [.int r1018]) (rest := []) ⟨hx, hb, hml, hown, hts⟩ (J_X0_length l hI ok_o1006 (Or.inl hq) (h.1 (Or.inl hq))) (cwV 1 hts gX11_told_X0_length rfl rfl rfl hdV_X0_length ⟨Nat.le_of_ble_eq_true rfl, Nat.le_of_ble_eq_true rfl⟩) (x_preV (ci := 0) hK hZ hA hW ok_o1006.1 (lay_okB0 ok_o1006 hq) rfl) rfl rfl hl.1 rfl (lv_room (Nat.le_of_ble_eq_true rfl)) dX11_told_144 ⟨Nat.zero_le _, Nat.zero_le _⟩
          · exact va_runU (As := [.int r1018]) (rest := []) ⟨hx, hb, hml, hown, hts⟩ (J_X2_length l hI ok_o1006 (Or.inl hq) (h.2.1 (Or.inl hq))) (va_cwO 1 hts gX11_told_X2_length_u197X2 rfl rfl rfl hwX11_told_10 (by decide +kernel) ⟨Nat.le_of_ble_eq_true rfl, Nat.le_of_ble_eq_true rfl⟩) (x_preV (ci := 2) hK hZ hA hW ok_o1006.1 (lay_okB1 ok_o1006 hq) rfl) rfl rfl hl.1 rfl (lv_room (Nat.le_of_ble_eq_true rfl)) dX11_told_144 ⟨Nat.zero_le _, Nat.zero_le _⟩
          · exact va_runU (As := [.int r1018]) (rest := []) ⟨hx, hb, hml, hown, hts⟩ (J_X3_length l hI ok_o1006 hq (h.2.2.1 hq)) (va_cwO 1 hts gX11_told_X3_length_u197X3 rfl rfl rfl hwX11_told_10 (by decide +kernel) ⟨Nat.le_of_ble_eq_true rfl, Nat.le_of_ble_eq_true rfl⟩) (x_preV (ci := 3) hK hZ hA hW ok_o1006.1 (lay_okB2 ok_o1006 hq) rfl) rfl rfl hl.1 rfl (lv_room (Nat.le_of_ble_eq_true rfl)) dX11_told_144 ⟨Nat.zero_le _, Nat.zero_le _⟩
          · exact va_runU (As := [.int r1018]) (rest := []) ⟨hx, hb, hml, hown, hts⟩ (J_X0_length l hI ok_o1006 (Or.inr hq) (h.1 (Or.inr hq))) (va_cwU 1 hts gX11_told_X0_length_u197X1 rfl rfl rfl rfl (by decide +kernel) ⟨Nat.le_of_ble_eq_true rfl, Nat.le_of_ble_eq_true rfl⟩) (x_preV (ci := 1) hK hZ hA hW ok_o1006.1 (lay_okB3 ok_o1006 hq) rfl) rfl rfl hl.1 rfl (lv_room (Nat.le_of_ble_eq_true rfl)) dX11_told_144 ⟨Nat.zero_le _, Nat.zero_le _⟩
          · exact va_runU (As := [.int r1018]) (rest := []) ⟨hx, hb, hml, hown, hts⟩ (J_X4_length l hI ok_o1006 hq (h.2.2.2 hq)) (va_cwO 1 hts gX11_told_X4_length_u197X4 rfl rfl rfl hwX11_told_10 (by decide +kernel) ⟨Nat.le_of_ble_eq_true rfl, Nat.le_of_ble_eq_true rfl⟩) (x_preV (ci := 4) hK hZ hA hW ok_o1006.1 (lay_okB4 ok_o1006 hq) rfl) rfl rfl hl.1 rfl (lv_room (Nat.le_of_ble_eq_true rfl)) dX11_told_144 ⟨Nat.zero_le _, Nat.zero_le _⟩
          · exact va_runU (As := [.int r1018]) (rest := []) ⟨hx, hb, hml, hown, hts⟩ (J_X2_length l hI ok_o1006 (Or.inr hq) (h.2.1 (Or.inr hq))) (va_cwO 1 hts gX11_told_X2_length_u197X10 rfl rfl rfl hwX11_told_10 (by decide +kernel) ⟨Nat.le_of_ble_eq_true rfl, Nat.le_of_ble_eq_true rfl⟩) (x_preV (ci := 10) hK hZ hA hW ok_o1006.1 (lay_okB5 ok_o1006 hq) rfl) rfl rfl hl.1 rfl (lv_room (Nat.le_of_ble_eq_true rfl)) dX11_told_144 ⟨Nat.zero_le _, Nat.zero_le _⟩
        refine x_calli (hr1019 _ h) hW hA (fun r1021 σ1020 H locs h hW => ?_)
        try dsimp only at h
        exact kr _ _ _ _ _ _ hW h dX11_told_147
      clear hcase
      obtain ⟨hcase, h⟩ := h
      by_cases hc29_9 : v1008 = (9 : Int32)
      · have h := hcase hc29_9
        clear hcase
        refine lv_tableIn (tgt := 148) hx hb dX11_told_29 (by rw [hc29_9] <;> decide) (by rw [hc29_9] <;> decide) (by rw [hc29_9]; rfl) (by decide) ?_
        refine lv_aload_n hx hb dX11_told_148 rfl (lv_at hl 1 rfl) ?_
        refine xgX11_0r hx hb hts hown hK hW 0 hcX11_told_X11 (hI 0 (by decide)) lX_0 (hts _ hwX11_told_0) (sX_0_0 _) dX11_told_149 ?_
        refine lv_aload_n hx hb dX11_told_152 rfl (lv_at hl 0 rfl) ?_
        refine x_calli (va_runV (As := [.ref (ad o1006)]) (rest := []) ⟨hx, hb, hml, hown, hts⟩ (J_X6_pull l hI ok_o1006 h) (cwV 1 hts gX11_told_X6_pull rfl rfl rfl hdV_X6_pull ⟨Nat.le_of_ble_eq_true rfl, Nat.le_of_ble_eq_true rfl⟩) (x_preV (ci := 6) hK hZ hA hW (hI 1 (by decide)) lX_1 rfl) rfl rfl hl.1 rfl (lv_room (Nat.le_of_ble_eq_true rfl)) dX11_told_153 ⟨Nat.zero_le _, Nat.zero_le _⟩) hW hA (fun r1023 σ1022 H locs h hW => ?_)
        try dsimp only at h
        exact kr _ _ _ _ _ _ hW h dX11_told_156
      clear hcase
      obtain ⟨hcase, h⟩ := h
      by_cases hc29_10 : v1008 = (10 : Int32)
      · have h := hcase hc29_10
        clear hcase
        refine lv_tableIn (tgt := 157) hx hb dX11_told_29 (by rw [hc29_10] <;> decide) (by rw [hc29_10] <;> decide) (by rw [hc29_10]; rfl) (by decide) ?_
        refine lv_aload_n hx hb dX11_told_157 rfl (lv_at hl 1 rfl) ?_
        refine xgX11_0r hx hb hts hown hK hW 0 hcX11_told_X11 (hI 0 (by decide)) lX_0 (hts _ hwX11_told_0) (sX_0_0 _) dX11_told_158 ?_
        refine lv_aload_n hx hb dX11_told_161 rfl (lv_at hl 0 rfl) ?_
        refine x_calli (va_runV (As := [.ref (ad o1006)]) (rest := []) ⟨hx, hb, hml, hown, hts⟩ (J_X6_slips l hI ok_o1006 h) (cwV 1 hts gX11_told_X6_slips rfl rfl rfl hdV_X6_slips ⟨Nat.le_of_ble_eq_true rfl, Nat.le_of_ble_eq_true rfl⟩) (x_preV (ci := 6) hK hZ hA hW (hI 1 (by decide)) lX_1 rfl) rfl rfl hl.1 rfl (lv_room (Nat.le_of_ble_eq_true rfl)) dX11_told_162 ⟨Nat.zero_le _, Nat.zero_le _⟩) hW hA (fun r1025 σ1024 H locs h hW => ?_)
        try dsimp only at h
        refine x_calli (va_runS (As := [.int r1025]) (rest := []) ⟨hx, hb, hml, hown, hts⟩ (J_X11_asBit l hI h) (va_cwS 1 hts gX11_told_X11_asBit rfl rfl rfl hdS_X11_asBit ⟨Nat.le_of_ble_eq_true rfl, Nat.le_of_ble_eq_true rfl⟩) (x_preS hK hZ hA hW) rfl rfl hl.1 rfl (lv_room (Nat.le_of_ble_eq_true rfl)) dX11_told_165 ⟨Nat.zero_le _, Nat.zero_le _⟩) hW hA (fun r1027 σ1026 H locs h hW => ?_)
        try dsimp only at h
        exact kr _ _ _ _ _ _ hW h dX11_told_168
      clear hcase
      obtain ⟨hcase, h⟩ := h
      by_cases hc29_11 : v1008 = (11 : Int32)
      · have h := hcase hc29_11
        clear hcase
        refine lv_tableIn (tgt := 169) hx hb dX11_told_29 (by rw [hc29_11] <;> decide) (by rw [hc29_11] <;> decide) (by rw [hc29_11]; rfl) (by decide) ?_
        refine lv_aload_n hx hb dX11_told_169 rfl (lv_at hl 1 rfl) ?_
        refine lv_aload_n hx hb dX11_told_170 rfl (lv_at hl 0 rfl) ?_
        refine x_calli (va_runV (As := [.ref (ad o1006)]) (rest := []) ⟨hx, hb, hml, hown, hts⟩ (J_X11_wear l hI ok_o1006 h) (cwV 1 hts gX11_told_X11_wear rfl rfl rfl hdV_X11_wear ⟨Nat.le_of_ble_eq_true rfl, Nat.le_of_ble_eq_true rfl⟩) (x_preV (ci := 11) hK hZ hA hW (hI 0 (by decide)) lX_0 rfl) rfl rfl hl.1 rfl (lv_room (Nat.le_of_ble_eq_true rfl)) dX11_told_171 ⟨Nat.zero_le _, Nat.zero_le _⟩) hW hA (fun r1029 σ1028 H locs h hW => ?_)
        try dsimp only at h
        exact kr _ _ _ _ _ _ hW h dX11_told_174
      clear hcase
      have h := h ⟨hc29_0, hc29_1, hc29_2, hc29_3, hc29_4, hc29_5, hc29_6, hc29_7, hc29_8, hc29_9, hc29_10, hc29_11⟩
      refine lv_tableOut (tgt := 175) hx hb dX11_told_29 (tsw_out v1008 (0) (11) (fun k h1 h2 => ?_)) (by decide) ?_
      · rcases (show k = 0 ∨ k = 1 ∨ k = 2 ∨ k = 3 ∨ k = 4 ∨ k = 5 ∨ k = 6 ∨ k = 7 ∨ k = 8 ∨ k = 9 ∨ k = 10 ∨ k = 11 by omega) with rfl | rfl | rfl | rfl | rfl | rfl | rfl | rfl | rfl | rfl | rfl | rfl
        · exact hc29_0
        · exact hc29_1
        · exact hc29_2
        · exact hc29_3
        · exact hc29_4
        · exact hc29_5
        · exact hc29_6
        · exact hc29_7
        · exact hc29_8
        · exact hc29_9
        · exact hc29_10
        · exact hc29_11
      refine lv_bipush (v := (-5)) hx hb dX11_told_175 (by decide) ?_
      exact kr _ _ _ _ _ _ hW h dX11_told_177
    · have h := h.2 c1003
      refine lv_bipush (v := (-5)) hx hb dX11_told_8 (by decide) ?_
      exact kr _ _ _ _ _ _ hW h dX11_told_10
  exact main _ _ _ hW hl
theorem hwX6_commonDivisor_0 : (.methodLink RX6 103 Lib.MathLoose.max_long.x : Cond) ∈ wsX6_commonDivisor := (List.mem_cons_of_mem _ (List.mem_append_left _ (List.mem_of_getElem? (i := 2) rfl)))
theorem hwX6_commonDivisor_1 : (.static Lib.MathLoose.max_long.x : Cond) ∈ wsX6_commonDivisor := (List.mem_cons_of_mem _ (List.mem_append_left _ (List.mem_of_getElem? (i := 3) rfl)))
theorem hwX6_commonDivisor_2 : (.initialized "java/lang/Math" : Cond) ∈ wsX6_commonDivisor := (List.mem_cons_of_mem _ (List.mem_append_left _ (List.mem_of_getElem? (i := 4) rfl)))
theorem hwX6_commonDivisor_3 : (.code Lib.MathLoose.max_long.x Lib.MathLoose.max_long.code 4 (some .long) : Cond) ∈ wsX6_commonDivisor := (List.mem_cons_of_mem _ (List.mem_append_left _ (List.mem_of_getElem? (i := 5) rfl)))
theorem hwX6_commonDivisor_4 : (.fieldLink RX6 21 "FortyBelts$Mill" "above" "[J" : Cond) ∈ wsX6_commonDivisor := (List.mem_cons_of_mem _ (List.mem_append_left _ (List.mem_of_getElem? (i := 0) rfl)))
theorem hwX6_commonDivisor_5 : (.fieldLink RX6 25 "FortyBelts$Mill" "below" "[J" : Cond) ∈ wsX6_commonDivisor := (List.mem_cons_of_mem _ (List.mem_append_left _ (List.mem_of_getElem? (i := 1) rfl)))
theorem hcX6_commonDivisor_X6 : ∀ w ∈ wsX60, w ∈ wsX6_commonDivisor := fun _ h => (List.mem_cons_of_mem _ (List.mem_append_right _ h))
set_option maxHeartbeats 4000000 in
set_option maxRecDepth 100000 in
theorem J_X6_commonDivisor {D : va_G} {KA : Nat → ClassId} {zs : ZS} {ad : Nat → Nat} {ids : List Nat} {sz : Nat} (l : Launch) (hI : ∀ c, c < 52 ∧ ¬ c = 19 → c ∈ ids) {a1 : Int32}  {σ : St} {post : Int64 → St → Prop} (h : wX6_commonDivisor ids a1 σ post) : Met l yX6_commonDivisor wsX6_commonDivisor rmX6_commonDivisor (va_Pc [.ref (ad 1), .int a1] (xIn D KA zs layX stX ad ids sz σ)) (va_Ql post (xOut D KA layX stX ad ids) (xA ad ids sz)) 0 0 (xA ad ids sz) := by
  refine Met.ofW (cc := cX6_commonDivisor) (maxL := 9) (ret := (some .long)) (by decide) rfl ?_
  intro p e s m args below meth c s₁ B hml hv
  obtain ⟨hav, hsz, hK, hZ, hP, hD⟩ := hv
  have hx := B.exec
  have hb := B.bytes
  have hr := B.returns
  have hts := atoms_spec (ws := wsX6_commonDivisor) B.pre
  have hown : s.vm.findClass RX6 = some m.cls := findClass_of_methodNamed B.named
  have hlocks := B.notSynchronized
  subst hsz
  have hA : ∀ q : Nat, s.heap.size ≤ q → xA ad ids s.heap.size q := fun q h => Or.inr h
  have hW : xW D KA layX stX ad ids (xA ad ids s.heap.size) s.heap σ s.heap [] := ⟨hP, xA_D (D := D) hD, va_S.rf⟩
  have kr : ∀ (v : Int64) (σ : St) (H : Heap) (locs : List Loc) (ls : Array Slot) (pc : Nat), xW D KA layX stX ad ids (xA ad ids s.heap.size) s.heap σ H locs → post v σ → decode cX6_commonDivisor pc = .ok (.lreturn, 1) → W p l e rmX6_commonDivisor s m args below meth c H locs 0 0 (MQ below (va_Ql post (xOut D KA layX stX ad ids) (xA ad ids s.heap.size)) args s 0 0 (xA ad ids s.heap.size)) (F0 m pc ls [.long v]) := fun v σ H locs ls pc hW h hd => x_lret hx hb hr hlocks hW h hd
  have hl := lv_entry ([.ref (ad 1), .int a1]) (n := 9) (Nat.le_of_ble_eq_true rfl)
  rw [show entryFrame m args 9 = entryFrame m ([.ref (ad 1), .int a1] : List Value).toArray 9 from by rw [hav]]
  rw [lg_entry_eq]
  generalize (lg_sl ([.ref (ad 1), .int a1]) ++ List.replicate (9 - (lg_sl ([.ref (ad 1), .int a1])).length) Slot.unset).toArray = ls at hl ⊢
  have hl : lv_has ls 9 [(0, .ref (ad 1)), (1, .int a1)] := hl
  show W p l e rmX6_commonDivisor s m args below meth c s.heap [] 0 0 _ _
  generalize MQ below (va_Ql post (xOut D KA layX stX ad ids) (xA ad ids s.heap.size)) args s 0 0 (xA ad ids s.heap.size) = Q at kr ⊢
  have blk52 : ∀ (x2 : Int64) (σ : St) (H : Heap) (locs : List Loc) (ls : Array Slot), xW D KA layX stX ad ids (xA ad ids s.heap.size) s.heap σ H locs → lv_has ls 9 [(2, .long x2)] → wX6_commonDivisor_52 ids post x2 σ → W p l e rmX6_commonDivisor s m args below meth c H locs 0 0 Q (F0 m 52 ls []) := by
    intro   x2 σ H locs ls hW hl h
    unfold wX6_commonDivisor_52 at h
    refine lv_lconst (v := 1) hx hb dX6_commonDivisor_52 (by decide) ?_
    refine lv_lload_n hx hb dX6_commonDivisor_53 rfl (lv_at hl 0 rfl) ?_
    refine va_mmax_long hx hb (hml.trans hl.1.symm) hown (hts _ hwX6_commonDivisor_0) (hts _ hwX6_commonDivisor_1) (hts _ hwX6_commonDivisor_2) (hts _ hwX6_commonDivisor_3) (Nat.le_of_ble_eq_true rfl) (Nat.le_of_ble_eq_true rfl) (Nat.le_of_ble_eq_true rfl) (Nat.le_of_ble_eq_true rfl) dX6_commonDivisor_54 ?_
    exact kr _ _ _ _ _ _ hW h dX6_commonDivisor_57
  have blk18 : ∀ (n : Nat) (x2 : Int64) (x4 : Int64) (x6 : Int32) (σ : St) (H : Heap) (locs : List Loc) (ls : Array Slot), xW D KA layX stX ad ids (xA ad ids s.heap.size) s.heap σ H locs → lv_has ls 9 [(2, .long x2), (4, .long x4), (6, .int x6)] → wX6_commonDivisor_18 ids post  n x2 x4 x6 σ → W p l e rmX6_commonDivisor s m args below meth c H locs 0 0 Q (F0 m 18 ls []) := by
    intro    n
    induction n with
    | zero => intro x2 x4 x6 σ H locs ls hW hl h; exact (h : False).elim
    | succ n ih =>
      intro x2 x4 x6 σ H locs ls hW hl h
      have hk18 : ∀ (x2 : Int64) (x4 : Int64) (x6 : Int32) (σ : St) (H : Heap) (locs : List Loc) (ls : Array Slot), xW D KA layX stX ad ids (xA ad ids s.heap.size) s.heap σ H locs → lv_has ls 9 [(2, .long x2), (4, .long x4), (6, .int x6)] → (wX6_commonDivisor_18 ids post  n) x2 x4 x6 σ → W p l e rmX6_commonDivisor s m args below meth c H locs 0 0 Q (F0 m 18 ls []) := fun x2 x4 x6 σ H locs ls hW hl h => ih x2 x4 x6 σ H locs ls hW hl h
      rw [wX6_commonDivisor_18_s] at h
      try dsimp only at h
      generalize wX6_commonDivisor_18 ids post  n = k18 at h hk18
      refine lv_iload hx hb dX6_commonDivisor_18 (lv_at hl 2 rfl) ?_
      refine lv_sipush (v := 200) hx hb dX6_commonDivisor_20 (by decide) ?_
      refine lv_icmp_ge (tgt := 52) hx hb dX6_commonDivisor_23 (by decide) (fun c1 => ?_) (fun c1 => ?_)
      · have h := h.1 c1
        exact blk52   x2 _ _ _ _ hW (lv_sub hl [0] rfl) h
      · have h := h.2 c1
        refine lv_lload hx hb dX6_commonDivisor_26 (lv_at hl 1 rfl) ?_
        refine lv_lconst (v := 0) hx hb dX6_commonDivisor_28 (by decide) ?_
        refine W.lcmp hx hb dX6_commonDivisor_29 ?_
        refine lv_if_eq (tgt := 52) hx hb dX6_commonDivisor_30 (by decide) (fun c2 => ?_) (fun c2 => ?_)
        · have h := h.1 c2
          exact blk52   x2 _ _ _ _ hW (lv_sub hl [0] rfl) h
        · have h := h.2 c2
          refine lv_lload_n hx hb dX6_commonDivisor_33 rfl (lv_at hl 0 rfl) ?_
          refine lv_lload hx hb dX6_commonDivisor_34 (lv_at hl 1 rfl) ?_
          obtain ⟨hd3, h⟩ := h
          refine lv_lrem hx hb dX6_commonDivisor_36 hd3 ?_
          refine lv_topl (fun v4 hv4 => ?_)
          have h := h v4 hv4
          refine lv_lstore (lv' := [(7, .long v4), (2, .long x2), (4, .long x4), (6, .int x6)]) hx hb dX6_commonDivisor_37 hl (by decide) rfl (fun ls hl => ?_)
          refine lv_lload hx hb dX6_commonDivisor_39 (lv_at hl 2 rfl) ?_
          refine lv_lstore_n (lv' := [(2, .long x4), (7, .long v4), (4, .long x4), (6, .int x6)]) hx hb dX6_commonDivisor_41 rfl hl (by decide) rfl (fun ls hl => ?_)
          refine lv_lload hx hb dX6_commonDivisor_42 (lv_at hl 1 rfl) ?_
          refine lv_lstore (lv' := [(4, .long v4), (2, .long x4), (7, .long v4), (6, .int x6)]) hx hb dX6_commonDivisor_44 hl (by decide) rfl (fun ls hl => ?_)
          obtain ⟨v5, hv5⟩ : ∃ y : Int32, y = x6 + (1 : Int32) := ⟨_, rfl⟩
          have h := h v5 hv5
          refine lv_iinc (v := v5) (lv' := [(6, .int v5), (4, .long v4), (2, .long x4), (7, .long v4)]) hx hb dX6_commonDivisor_46 hl (k := 3) rfl (by rw [hv5]; rfl) (by decide) rfl (fun ls hl => ?_)
          refine lv_goto (tgt := 18) hx hb dX6_commonDivisor_49 (by decide) ?_
          exact hk18 x4 v4 v5 _ _ _ _ hW (lv_sub hl [2, 1, 0] rfl) h
  have main : ∀ (H : Heap) (locs : List Loc) (ls : Array Slot), xW D KA layX stX ad ids (xA ad ids s.heap.size) s.heap σ H locs → lv_has ls 9 [(0, .ref (ad 1)), (1, .int a1)] → W p l e rmX6_commonDivisor s m args below meth c H locs 0 0 Q (F0 m 0 ls []) := by
    intro H locs ls hW hl
    unfold wX6_commonDivisor at h
    refine lv_aload_n hx hb dX6_commonDivisor_0 rfl (lv_at hl 0 rfl) ?_
    refine xgX6_7r hx hb hts hown hK hW 1 hcX6_commonDivisor_X6 (hI 1 (by decide)) lX_1 (hts _ hwX6_commonDivisor_4) (sX_1_7 _) dX6_commonDivisor_1 ?_
    refine lv_iload_n hx hb dX6_commonDivisor_4 rfl (lv_at hl 1 rfl) ?_
    obtain ⟨hi1001, h⟩ := h
    refine x_lald hx hb hK hW 6 (hI 6 (by decide)) lX_6 hi1001 dX6_commonDivisor_5 ?_
    refine lv_topl (fun v1002 hv1002 => ?_)
    have h := h v1002 hv1002
    refine lv_lstore_n (lv' := [(2, .long v1002), (0, .ref (ad 1)), (1, .int a1)]) hx hb dX6_commonDivisor_6 rfl hl (by decide) rfl (fun ls hl => ?_)
    refine lv_aload_n hx hb dX6_commonDivisor_7 rfl (lv_at hl 1 rfl) ?_
    refine xgX6_8r hx hb hts hown hK hW 1 hcX6_commonDivisor_X6 (hI 1 (by decide)) lX_1 (hts _ hwX6_commonDivisor_5) (sX_1_8 _) dX6_commonDivisor_8 ?_
    refine lv_iload_n hx hb dX6_commonDivisor_11 rfl (lv_at hl 2 rfl) ?_
    refine x_lald hx hb hK hW 7 (hI 7 (by decide)) lX_7 hi1001 dX6_commonDivisor_12 ?_
    refine lv_topl (fun v1004 hv1004 => ?_)
    have h := h v1004 hv1004
    refine lv_lstore (lv' := [(4, .long v1004), (2, .long v1002), (0, .ref (ad 1)), (1, .int a1)]) hx hb dX6_commonDivisor_13 hl (by decide) rfl (fun ls hl => ?_)
    refine lv_iconst (v := 0) hx hb dX6_commonDivisor_15 (by decide) ?_
    refine lv_istore (lv' := [(6, .int (0 : Int32)), (4, .long v1004), (2, .long v1002), (0, .ref (ad 1)), (1, .int a1)]) hx hb dX6_commonDivisor_16 hl (by decide) rfl (fun ls hl => ?_)
    obtain ⟨n, h⟩ := h
    exact blk18    n v1002 v1004 (0 : Int32) _ _ _ _ hW (lv_sub hl [2, 1, 0] rfl) h
  exact main _ _ _ hW hl
theorem hwX11_turns_0 : (.fieldLink RX11 10 "FortyBelts" "mill" "LFortyBelts$Mill;" : Cond) ∈ wsX11_turns := (List.mem_cons_of_mem _ (List.mem_append_left _ (List.mem_append_left _ (List.mem_append_left _ (List.mem_append_left _ (List.mem_append_left _ (List.mem_append_left _ (List.mem_append_left _ (List.mem_append_left _ (List.mem_append_left _ (List.mem_append_left _ (List.mem_of_getElem? (i := 1) rfl))))))))))))
theorem hwX11_turns_1 : (.fieldLink RX11 215 "FortyBelts$Mill" "above" "[J" : Cond) ∈ wsX11_turns := (List.mem_cons_of_mem _ (List.mem_append_left _ (List.mem_append_left _ (List.mem_append_left _ (List.mem_append_left _ (List.mem_append_left _ (List.mem_append_left _ (List.mem_append_left _ (List.mem_append_left _ (List.mem_append_left _ (List.mem_append_left _ (List.mem_of_getElem? (i := 2) rfl))))))))))))
theorem hwX11_turns_2 : (.fieldLink RX11 219 "FortyBelts$Mill" "below" "[J" : Cond) ∈ wsX11_turns := (List.mem_cons_of_mem _ (List.mem_append_left _ (List.mem_append_left _ (List.mem_append_left _ (List.mem_append_left _ (List.mem_append_left _ (List.mem_append_left _ (List.mem_append_left _ (List.mem_append_left _ (List.mem_append_left _ (List.mem_append_left _ (List.mem_of_getElem? (i := 3) rfl))))))))))))
theorem hwX11_turns_3 : (.fieldLink RX11 222 "FortyBelts$Mill" "ways" "[I" : Cond) ∈ wsX11_turns := (List.mem_cons_of_mem _ (List.mem_append_left _ (List.mem_append_left _ (List.mem_append_left _ (List.mem_append_left _ (List.mem_append_left _ (List.mem_append_left _ (List.mem_append_left _ (List.mem_append_left _ (List.mem_append_left _ (List.mem_append_left _ (List.mem_of_getElem? (i := 4) rfl))))))))))))
theorem hwX11_turns_4 : (.constantLong RX11 209 (-4611686018427387904) : Cond) ∈ wsX11_turns := (List.mem_cons_of_mem _ (List.mem_append_left _ (List.mem_append_left _ (List.mem_append_left _ (List.mem_append_left _ (List.mem_append_left _ (List.mem_append_left _ (List.mem_append_left _ (List.mem_append_left _ (List.mem_append_left _ (List.mem_append_left _ (List.mem_of_getElem? (i := 0) rfl))))))))))))
theorem hcX11_turns_X11 : ∀ w ∈ wsX110, w ∈ wsX11_turns := fun _ h => (List.mem_cons_of_mem _ (List.mem_append_left _ (List.mem_append_left _ (List.mem_append_left _ (List.mem_append_left _ (List.mem_append_left _ (List.mem_append_left _ (List.mem_append_left _ (List.mem_append_left _ (List.mem_append_right _ h))))))))))
theorem hcX11_turns_X6 : ∀ w ∈ wsX60, w ∈ wsX11_turns := fun _ h => (List.mem_cons_of_mem _ (List.mem_append_left _ (List.mem_append_left _ (List.mem_append_left _ (List.mem_append_left _ (List.mem_append_left _ (List.mem_append_left _ (List.mem_append_left _ (List.mem_append_right _ h)))))))))
set_option maxHeartbeats 4000000 in
set_option maxRecDepth 100000 in
theorem J_X11_turns {D : va_G} {KA : Nat → ClassId} {zs : ZS} {ad : Nat → Nat} {ids : List Nat} {sz : Nat} (l : Launch) (hI : ∀ c, c < 52 ∧ ¬ c = 19 → c ∈ ids) {a1 : Int32} {a2 : Int32}  {σ : St} {post : Int64 → St → Prop} (h : wX11_turns ids a1 a2 σ post) : Met l yX11_turns wsX11_turns rmX11_turns (va_Pc [.ref (ad 0), .int a1, .int a2] (xIn D KA zs layX stX ad ids sz σ)) (va_Ql post (xOut D KA layX stX ad ids) (xA ad ids sz)) 0 0 (xA ad ids sz) := by
  refine Met.ofW (cc := cX11_turns) (maxL := 5) (ret := (some .long)) (by decide) rfl ?_
  intro p e s m args below meth c s₁ B hml hv
  obtain ⟨hav, hsz, hK, hZ, hP, hD⟩ := hv
  have hx := B.exec
  have hb := B.bytes
  have hr := B.returns
  have hts := atoms_spec (ws := wsX11_turns) B.pre
  have hown : s.vm.findClass RX11 = some m.cls := findClass_of_methodNamed B.named
  have hlocks := B.notSynchronized
  subst hsz
  have hA : ∀ q : Nat, s.heap.size ≤ q → xA ad ids s.heap.size q := fun q h => Or.inr h
  have hW : xW D KA layX stX ad ids (xA ad ids s.heap.size) s.heap σ s.heap [] := ⟨hP, xA_D (D := D) hD, va_S.rf⟩
  have kr : ∀ (v : Int64) (σ : St) (H : Heap) (locs : List Loc) (ls : Array Slot) (pc : Nat), xW D KA layX stX ad ids (xA ad ids s.heap.size) s.heap σ H locs → post v σ → decode cX11_turns pc = .ok (.lreturn, 1) → W p l e rmX11_turns s m args below meth c H locs 0 0 (MQ below (va_Ql post (xOut D KA layX stX ad ids) (xA ad ids s.heap.size)) args s 0 0 (xA ad ids s.heap.size)) (F0 m pc ls [.long v]) := fun v σ H locs ls pc hW h hd => x_lret hx hb hr hlocks hW h hd
  have hl := lv_entry ([.ref (ad 0), .int a1, .int a2]) (n := 5) (Nat.le_of_ble_eq_true rfl)
  rw [show entryFrame m args 5 = entryFrame m ([.ref (ad 0), .int a1, .int a2] : List Value).toArray 5 from by rw [hav]]
  rw [lg_entry_eq]
  generalize (lg_sl ([.ref (ad 0), .int a1, .int a2]) ++ List.replicate (5 - (lg_sl ([.ref (ad 0), .int a1, .int a2])).length) Slot.unset).toArray = ls at hl ⊢
  have hl : lv_has ls 5 [(0, .ref (ad 0)), (1, .int a1), (2, .int a2)] := hl
  show W p l e rmX11_turns s m args below meth c s.heap [] 0 0 _ _
  generalize MQ below (va_Ql post (xOut D KA layX stX ad ids) (xA ad ids s.heap.size)) args s 0 0 (xA ad ids s.heap.size) = Q at kr ⊢
  have main : ∀ (H : Heap) (locs : List Loc) (ls : Array Slot), xW D KA layX stX ad ids (xA ad ids s.heap.size) s.heap σ H locs → lv_has ls 5 [(0, .ref (ad 0)), (1, .int a1), (2, .int a2)] → W p l e rmX11_turns s m args below meth c H locs 0 0 Q (F0 m 0 ls []) := by
    intro H locs ls hW hl
    unfold wX11_turns at h
    refine lv_aload_n hx hb dX11_turns_0 rfl (lv_at hl 0 rfl) ?_
    refine lv_iload_n hx hb dX11_turns_1 rfl (lv_at hl 1 rfl) ?_
    refine x_calli (va_runV (As := [.int a1]) (rest := []) ⟨hx, hb, hml, hown, hts⟩ (J_X11_isShaft l hI h) (cwV 1 hts gX11_turns_X11_isShaft rfl rfl rfl hdV_X11_isShaft ⟨Nat.le_of_ble_eq_true rfl, Nat.le_of_ble_eq_true rfl⟩) (x_preV (ci := 11) hK hZ hA hW (hI 0 (by decide)) lX_0 rfl) rfl rfl hl.1 rfl (lv_room (Nat.le_of_ble_eq_true rfl)) dX11_turns_2 ⟨Nat.zero_le _, Nat.zero_le _⟩) hW hA (fun r1002 σ1001 H locs h hW => ?_)
    try dsimp only at h
    refine lv_if_ne (tgt := 12) hx hb dX11_turns_5 (by decide) (fun c1003 => ?_) (fun c1003 => ?_)
    · have h := h.1 c1003
      refine lv_aload_n hx hb dX11_turns_12 rfl (lv_at hl 0 rfl) ?_
      refine xgX11_0r hx hb hts hown hK hW 0 hcX11_turns_X11 (hI 0 (by decide)) lX_0 (hts _ hwX11_turns_0) (sX_0_0 _) dX11_turns_13 ?_
      refine x_callv (va_runV (As := []) (rest := []) ⟨hx, hb, hml, hown, hts⟩ (J_X6_spin l hI h) (cwV 0 hts gX11_turns_X6_spin rfl rfl rfl hdV_X6_spin ⟨Nat.le_of_ble_eq_true rfl, Nat.le_of_ble_eq_true rfl⟩) (x_preV (ci := 6) hK hZ hA hW (hI 1 (by decide)) lX_1 rfl) rfl rfl hl.1 rfl (lv_room (Nat.le_of_ble_eq_true rfl)) dX11_turns_16 ⟨Nat.zero_le _, Nat.zero_le _⟩) hW hA (fun σ1004 H locs h hW => ?_)
      try dsimp only at h
      refine lv_aload_n hx hb dX11_turns_19 rfl (lv_at hl 0 rfl) ?_
      refine xgX11_0r hx hb hts hown hK hW 0 hcX11_turns_X11 (hI 0 (by decide)) lX_0 (hts _ hwX11_turns_0) (sX_0_0 _) dX11_turns_20 ?_
      refine lv_iload_n hx hb dX11_turns_23 rfl (lv_at hl 1 rfl) ?_
      refine x_calll (va_runV (As := [.int a1]) (rest := []) ⟨hx, hb, hml, hown, hts⟩ (J_X6_commonDivisor l hI h) (cwV 1 hts gX11_turns_X6_commonDivisor rfl rfl rfl hdV_X6_commonDivisor ⟨Nat.le_of_ble_eq_true rfl, Nat.le_of_ble_eq_true rfl⟩) (x_preV (ci := 6) hK hZ hA hW (hI 1 (by decide)) lX_1 rfl) rfl rfl hl.1 rfl (lv_room (Nat.le_of_ble_eq_true rfl)) dX11_turns_24 ⟨Nat.zero_le _, Nat.zero_le _⟩) hW hA (fun r1006 σ1005 H locs h hW => ?_)
      try dsimp only at h
      refine lv_lstore_n (lv' := [(3, .long r1006), (0, .ref (ad 0)), (1, .int a1), (2, .int a2)]) hx hb dX11_turns_27 rfl hl (by decide) rfl (fun ls hl => ?_)
      refine lv_iload_n hx hb dX11_turns_28 rfl (lv_at hl 3 rfl) ?_
      refine lv_topi (fun v1007 hv1007 => ?_)
      have h := h v1007 hv1007
      obtain ⟨hcase, h⟩ := h
      by_cases hc29_0 : v1007 = (0 : Int32)
      · have h := hcase hc29_0
        clear hcase
        refine lv_tableIn (tgt := 64) hx hb dX11_turns_29 (by rw [hc29_0] <;> decide) (by rw [hc29_0] <;> decide) (by rw [hc29_0]; rfl) (by decide) ?_
        refine lv_aload_n hx hb dX11_turns_64 rfl (lv_at hl 1 rfl) ?_
        refine xgX11_0r hx hb hts hown hK hW 0 hcX11_turns_X11 (hI 0 (by decide)) lX_0 (hts _ hwX11_turns_0) (sX_0_0 _) dX11_turns_65 ?_
        refine xgX6_7r hx hb hts hown hK hW 1 hcX11_turns_X6 (hI 1 (by decide)) lX_1 (hts _ hwX11_turns_1) (sX_1_7 _) dX11_turns_68 ?_
        refine lv_iload_n hx hb dX11_turns_71 rfl (lv_at hl 2 rfl) ?_
        obtain ⟨hi1008, h⟩ := h
        refine x_lald hx hb hK hW 6 (hI 6 (by decide)) lX_6 hi1008 dX11_turns_72 ?_
        refine lv_lload_n hx hb dX11_turns_73 rfl (lv_at hl 0 rfl) ?_
        obtain ⟨hd1009, h⟩ := h
        refine lv_ldiv hx hb dX11_turns_74 hd1009 ?_
        exact kr _ _ _ _ _ _ hW h dX11_turns_75
      clear hcase
      obtain ⟨hcase, h⟩ := h
      by_cases hc29_1 : v1007 = (1 : Int32)
      · have h := hcase hc29_1
        clear hcase
        refine lv_tableIn (tgt := 76) hx hb dX11_turns_29 (by rw [hc29_1] <;> decide) (by rw [hc29_1] <;> decide) (by rw [hc29_1]; rfl) (by decide) ?_
        refine lv_aload_n hx hb dX11_turns_76 rfl (lv_at hl 1 rfl) ?_
        refine xgX11_0r hx hb hts hown hK hW 0 hcX11_turns_X11 (hI 0 (by decide)) lX_0 (hts _ hwX11_turns_0) (sX_0_0 _) dX11_turns_77 ?_
        refine xgX6_8r hx hb hts hown hK hW 1 hcX11_turns_X6 (hI 1 (by decide)) lX_1 (hts _ hwX11_turns_2) (sX_1_8 _) dX11_turns_80 ?_
        refine lv_iload_n hx hb dX11_turns_83 rfl (lv_at hl 2 rfl) ?_
        obtain ⟨hi1010, h⟩ := h
        refine x_lald hx hb hK hW 7 (hI 7 (by decide)) lX_7 hi1010 dX11_turns_84 ?_
        refine lv_lload_n hx hb dX11_turns_85 rfl (lv_at hl 0 rfl) ?_
        obtain ⟨hd1011, h⟩ := h
        refine lv_ldiv hx hb dX11_turns_86 hd1011 ?_
        exact kr _ _ _ _ _ _ hW h dX11_turns_87
      clear hcase
      obtain ⟨hcase, h⟩ := h
      by_cases hc29_2 : v1007 = (2 : Int32)
      · have h := hcase hc29_2
        clear hcase
        refine lv_tableIn (tgt := 88) hx hb dX11_turns_29 (by rw [hc29_2] <;> decide) (by rw [hc29_2] <;> decide) (by rw [hc29_2]; rfl) (by decide) ?_
        refine lv_aload_n hx hb dX11_turns_88 rfl (lv_at hl 1 rfl) ?_
        refine xgX11_0r hx hb hts hown hK hW 0 hcX11_turns_X11 (hI 0 (by decide)) lX_0 (hts _ hwX11_turns_0) (sX_0_0 _) dX11_turns_89 ?_
        refine xgX6_9r hx hb hts hown hK hW 1 hcX11_turns_X6 (hI 1 (by decide)) lX_1 (hts _ hwX11_turns_3) (sX_1_9 _) dX11_turns_92 ?_
        refine lv_iload_n hx hb dX11_turns_95 rfl (lv_at hl 2 rfl) ?_
        obtain ⟨hi1012, h⟩ := h
        refine x_iald hx hb hK hW 8 (hI 8 (by decide)) lX_8 hi1012 dX11_turns_96 ?_
        refine lv_i2l hx hb dX11_turns_97 rfl ?_
        exact kr _ _ _ _ _ _ hW h dX11_turns_98
      clear hcase
      obtain ⟨hcase, h⟩ := h
      by_cases hc29_3 : v1007 = (3 : Int32)
      · have h := hcase hc29_3
        clear hcase
        refine lv_tableIn (tgt := 99) hx hb dX11_turns_29 (by rw [hc29_3] <;> decide) (by rw [hc29_3] <;> decide) (by rw [hc29_3]; rfl) (by decide) ?_
        refine lv_aload_n hx hb dX11_turns_99 rfl (lv_at hl 1 rfl) ?_
        refine xgX11_0r hx hb hts hown hK hW 0 hcX11_turns_X11 (hI 0 (by decide)) lX_0 (hts _ hwX11_turns_0) (sX_0_0 _) dX11_turns_100 ?_
        refine lv_iload_n hx hb dX11_turns_103 rfl (lv_at hl 2 rfl) ?_
        refine x_calli (va_runV (As := [.int a1]) (rest := []) ⟨hx, hb, hml, hown, hts⟩ (J_X6_pulls l hI h) (cwV 1 hts gX11_turns_X6_pulls rfl rfl rfl hdV_X6_pulls ⟨Nat.le_of_ble_eq_true rfl, Nat.le_of_ble_eq_true rfl⟩) (x_preV (ci := 6) hK hZ hA hW (hI 1 (by decide)) lX_1 rfl) rfl rfl hl.1 rfl (lv_room (Nat.le_of_ble_eq_true rfl)) dX11_turns_104 ⟨Nat.zero_le _, Nat.zero_le _⟩) hW hA (fun r1014 σ1013 H locs h hW => ?_)
        try dsimp only at h
        refine lv_i2l hx hb dX11_turns_107 rfl ?_
        exact kr _ _ _ _ _ _ hW h dX11_turns_108
      clear hcase
      obtain ⟨hcase, h⟩ := h
      by_cases hc29_4 : v1007 = (4 : Int32)
      · have h := hcase hc29_4
        clear hcase
        refine lv_tableIn (tgt := 109) hx hb dX11_turns_29 (by rw [hc29_4] <;> decide) (by rw [hc29_4] <;> decide) (by rw [hc29_4]; rfl) (by decide) ?_
        refine lv_aload_n hx hb dX11_turns_109 rfl (lv_at hl 1 rfl) ?_
        refine xgX11_0r hx hb hts hown hK hW 0 hcX11_turns_X11 (hI 0 (by decide)) lX_0 (hts _ hwX11_turns_0) (sX_0_0 _) dX11_turns_110 ?_
        refine lv_iload_n hx hb dX11_turns_113 rfl (lv_at hl 2 rfl) ?_
        refine x_calli (va_runV (As := [.int a1]) (rest := []) ⟨hx, hb, hml, hown, hts⟩ (J_X6_isBent l hI h) (cwV 1 hts gX11_turns_X6_isBent rfl rfl rfl hdV_X6_isBent ⟨Nat.le_of_ble_eq_true rfl, Nat.le_of_ble_eq_true rfl⟩) (x_preV (ci := 6) hK hZ hA hW (hI 1 (by decide)) lX_1 rfl) rfl rfl hl.1 rfl (lv_room (Nat.le_of_ble_eq_true rfl)) dX11_turns_114 ⟨Nat.zero_le _, Nat.zero_le _⟩) hW hA (fun r1016 σ1015 H locs h hW => ?_)
        try dsimp only at h
        refine x_calli (va_runS (As := [.int r1016]) (rest := []) ⟨hx, hb, hml, hown, hts⟩ (J_X11_asBit l hI h) (va_cwS 1 hts gX11_turns_X11_asBit rfl rfl rfl hdS_X11_asBit ⟨Nat.le_of_ble_eq_true rfl, Nat.le_of_ble_eq_true rfl⟩) (x_preS hK hZ hA hW) rfl rfl hl.1 rfl (lv_room (Nat.le_of_ble_eq_true rfl)) dX11_turns_117 ⟨Nat.zero_le _, Nat.zero_le _⟩) hW hA (fun r1018 σ1017 H locs h hW => ?_)
        try dsimp only at h
        refine lv_i2l hx hb dX11_turns_120 rfl ?_
        exact kr _ _ _ _ _ _ hW h dX11_turns_121
      clear hcase
      have h := h ⟨hc29_0, hc29_1, hc29_2, hc29_3, hc29_4⟩
      refine lv_tableOut (tgt := 122) hx hb dX11_turns_29 (tsw_out v1007 (0) (4) (fun k h1 h2 => ?_)) (by decide) ?_
      · rcases (show k = 0 ∨ k = 1 ∨ k = 2 ∨ k = 3 ∨ k = 4 by omega) with rfl | rfl | rfl | rfl | rfl
        · exact hc29_0
        · exact hc29_1
        · exact hc29_2
        · exact hc29_3
        · exact hc29_4
      refine lv_ldc2 hx hb hown (hts _ hwX11_turns_4) dX11_turns_122 ?_
      exact kr _ _ _ _ _ _ hW h dX11_turns_125
    · have h := h.2 c1003
      refine lv_ldc2 hx hb hown (hts _ hwX11_turns_4) dX11_turns_8 ?_
      exact kr _ _ _ _ _ _ hW h dX11_turns_11
  exact main _ _ _ hW hl
