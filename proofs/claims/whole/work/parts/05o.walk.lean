theorem hwX12_lay_0 : (.fieldLink RX12 429 "FortyBeltsModel" "bestChanged" "I" : Cond) ∈ wsX12_lay := (List.mem_cons_of_mem _ (List.mem_append_left _ (List.mem_append_left _ (List.mem_of_getElem? (i := 2) rfl))))
theorem hwX12_lay_1 : (.fieldLink RX12 62 "FortyBeltsModel" "drumB" "[I" : Cond) ∈ wsX12_lay := (List.mem_cons_of_mem _ (List.mem_append_left _ (List.mem_append_left _ (List.mem_of_getElem? (i := 0) rfl))))
theorem hwX12_lay_2 : (.fieldLink RX12 90 "FortyBeltsModel" "bestDrum" "[I" : Cond) ∈ wsX12_lay := (List.mem_cons_of_mem _ (List.mem_append_left _ (List.mem_append_left _ (List.mem_of_getElem? (i := 1) rfl))))
theorem hcX12_lay_X12 : ∀ w ∈ wsX120, w ∈ wsX12_lay := fun _ h => (List.mem_cons_of_mem _ (List.mem_append_right _ h))
set_option maxHeartbeats 4000000 in
set_option maxRecDepth 100000 in
theorem J_X12_lay {D : va_G} {KA : Nat → ClassId} {zs : ZS} {ad : Nat → Nat} {ids : List Nat} {sz : Nat} (l : Launch) (hI : ∀ c, c < 35 → c ∈ ids)   {σ : St} {post : Int32 → St → Prop} (h : wX12_lay   σ post) : Met l yX12_lay wsX12_lay rmX12_lay (va_Pc [.ref (ad 0)] (xIn D KA zs layR stR ad ids sz σ)) (va_Qi post (xOut D KA layR stR ad ids) (xA ad ids sz)) 0 0 (xA ad ids sz) := by
  refine Met.ofW (cc := cX12_lay) (maxL := 2) (ret := (some .int)) (by decide) rfl ?_
  intro p e s m args below meth c s₁ B hml hv
  obtain ⟨hav, hsz, hK, hZ, hP, hD⟩ := hv
  have hx := B.exec
  have hb := B.bytes
  have hr := B.returns
  have hts := atoms_spec (ws := wsX12_lay) B.pre
  have hown : s.vm.findClass RX12 = some m.cls := findClass_of_methodNamed B.named
  have hlocks := B.notSynchronized
  subst hsz
  have hA : ∀ q : Nat, s.heap.size ≤ q → xA ad ids s.heap.size q := fun q h => Or.inr h
  have hW : xW D KA layR stR ad ids (xA ad ids s.heap.size) s.heap σ s.heap [] := ⟨hP, xA_D (D := D) hD, va_S.rf⟩
  have kr : ∀ (v : Int32) (σ : St) (H : Heap) (locs : List Loc) (ls : Array Slot) (pc : Nat), xW D KA layR stR ad ids (xA ad ids s.heap.size) s.heap σ H locs → post v σ → decode cX12_lay pc = .ok (.ireturn, 1) → W p l e rmX12_lay s m args below meth c H locs 0 0 (MQ below (va_Qi post (xOut D KA layR stR ad ids) (xA ad ids s.heap.size)) args s 0 0 (xA ad ids s.heap.size)) (F0 m pc ls [.int v]) := fun v σ H locs ls pc hW h hd => x_iret hx hb hr hlocks hW h hd
  have hl := lv_entry ([.ref (ad 0)]) (n := 2) (Nat.le_of_ble_eq_true rfl)
  rw [show entryFrame m args 2 = entryFrame m ([.ref (ad 0)] : List Value).toArray 2 from by rw [hav]]
  rw [lg_entry_eq]
  generalize (lg_sl ([.ref (ad 0)]) ++ List.replicate (2 - (lg_sl ([.ref (ad 0)])).length) Slot.unset).toArray = ls at hl ⊢
  have hl : lv_has ls 2 [(0, .ref (ad 0))] := hl
  show W p l e rmX12_lay s m args below meth c s.heap [] 0 0 _ _
  generalize MQ below (va_Qi post (xOut D KA layR stR ad ids) (xA ad ids s.heap.size)) args s 0 0 (xA ad ids s.heap.size) = Q at kr ⊢
  have blk11 : ∀ (n : Nat) (x1 : Int32) (σ : St) (H : Heap) (locs : List Loc) (ls : Array Slot), xW D KA layR stR ad ids (xA ad ids s.heap.size) s.heap σ H locs → lv_has ls 2 [(0, .ref (ad 0)), (1, .int x1)] → wX12_lay_11 post  n x1 σ → W p l e rmX12_lay s m args below meth c H locs 0 0 Q (F0 m 11 ls []) := by
    intro    n
    induction n with
    | zero => intro x1 σ H locs ls hW hl h; exact (h : False).elim
    | succ n ih =>
      intro x1 σ H locs ls hW hl h
      have hk11 : ∀ (x1 : Int32) (σ : St) (H : Heap) (locs : List Loc) (ls : Array Slot), xW D KA layR stR ad ids (xA ad ids s.heap.size) s.heap σ H locs → lv_has ls 2 [(0, .ref (ad 0)), (1, .int x1)] → (wX12_lay_11 post  n) x1 σ → W p l e rmX12_lay s m args below meth c H locs 0 0 Q (F0 m 11 ls []) := fun x1 σ H locs ls hW hl h => ih x1 σ H locs ls hW hl h
      rw [wX12_lay_11_s] at h
      try dsimp only at h
      generalize wX12_lay_11 post  n = k11 at h hk11
      refine lv_iload_n hx hb dX12_lay_11 rfl (lv_at hl 1 rfl) ?_
      refine lv_aload_n hx hb dX12_lay_12 rfl (lv_at hl 0 rfl) ?_
      refine x_calli (va_runV (As := []) (rest := [.int x1]) ⟨hx, hb, hml, hown, hts⟩ (J_X12_chosen l hI h) (cwV 0 hts gX12_lay_X12_chosen rfl rfl rfl hdV_X12_chosen ⟨Nat.le_of_ble_eq_true rfl, Nat.le_of_ble_eq_true rfl⟩) (x_preV (ci := 12) hK hZ hA hW (hI 0 (by decide)) lR_0 rfl) rfl rfl hl.1 rfl (lv_room (Nat.le_of_ble_eq_true rfl)) dX12_lay_13 ⟨Nat.zero_le _, Nat.zero_le _⟩) hW hA (fun r2 σ1 H locs h hW => ?_)
      try dsimp only at h
      refine lv_icmp_ge (tgt := 37) hx hb dX12_lay_16 (by decide) (fun c3 => ?_) (fun c3 => ?_)
      · have h := h.1 c3
        refine lv_aload_n hx hb dX12_lay_37 rfl (lv_at hl 0 rfl) ?_
        refine xgX12_54 hx hb hts hown hK hW 0 hcX12_lay_X12 (hI 0 (by decide)) lR_0 (hts _ hwX12_lay_0) dX12_lay_38 ?_
        exact kr _ _ _ _ _ _ hW h dX12_lay_41
      · have h := h.2 c3
        refine lv_aload_n hx hb dX12_lay_19 rfl (lv_at hl 0 rfl) ?_
        refine xgX12_25r hx hb hts hown hK hW 0 hcX12_lay_X12 (hI 0 (by decide)) lR_0 (hts _ hwX12_lay_1) (sR_0_25 _) dX12_lay_20 ?_
        refine lv_iload_n hx hb dX12_lay_23 rfl (lv_at hl 1 rfl) ?_
        refine lv_aload_n hx hb dX12_lay_24 rfl (lv_at hl 0 rfl) ?_
        refine xgX12_52r hx hb hts hown hK hW 0 hcX12_lay_X12 (hI 0 (by decide)) lR_0 (hts _ hwX12_lay_2) (sR_0_52 _) dX12_lay_25 ?_
        refine lv_iload_n hx hb dX12_lay_28 rfl (lv_at hl 1 rfl) ?_
        obtain ⟨hi4, h⟩ := h
        refine x_iald hx hb hK hW 24 (hI 24 (by decide)) lR_24 hi4 dX12_lay_29 ?_
        obtain ⟨hi5, h⟩ := h
        refine x_iast hx hb hK hW 17 (hI 17 (by decide)) lR_17 hi5 dX12_lay_30 (fun σ6 H locs hσ6 hW => ?_)
        have h := h σ6 hσ6
        obtain ⟨v7, hv7⟩ : ∃ y : Int32, y = x1 + (1 : Int32) := ⟨_, rfl⟩
        have h := h v7 hv7
        refine lv_iinc (v := v7) (lv' := [(1, .int v7), (0, .ref (ad 0))]) hx hb dX12_lay_31 hl (k := 1) rfl (by rw [hv7]; rfl) (by decide) rfl (fun ls hl => ?_)
        refine lv_goto (tgt := 11) hx hb dX12_lay_34 (by decide) ?_
        exact hk11 v7 _ _ _ _ hW (lv_sub hl [1, 0] rfl) h
  have main : ∀ (H : Heap) (locs : List Loc) (ls : Array Slot), xW D KA layR stR ad ids (xA ad ids s.heap.size) s.heap σ H locs → lv_has ls 2 [(0, .ref (ad 0))] → W p l e rmX12_lay s m args below meth c H locs 0 0 Q (F0 m 0 ls []) := by
    intro H locs ls hW hl
    unfold wX12_lay at h
    refine lv_aload_n hx hb dX12_lay_0 rfl (lv_at hl 0 rfl) ?_
    refine x_calli (va_runV (As := []) (rest := []) ⟨hx, hb, hml, hown, hts⟩ (J_X12_chooses l hI h) (cwV 0 hts gX12_lay_X12_chooses rfl rfl rfl hdV_X12_chooses ⟨Nat.le_of_ble_eq_true rfl, Nat.le_of_ble_eq_true rfl⟩) (x_preV (ci := 12) hK hZ hA hW (hI 0 (by decide)) lR_0 rfl) rfl rfl hl.1 rfl (lv_room (Nat.le_of_ble_eq_true rfl)) dX12_lay_1 ⟨Nat.zero_le _, Nat.zero_le _⟩) hW hA (fun r1002 σ1001 H locs h hW => ?_)
    try dsimp only at h
    refine lv_if_ne (tgt := 9) hx hb dX12_lay_4 (by decide) (fun c1003 => ?_) (fun c1003 => ?_)
    · have h := h.1 c1003
      refine lv_iconst (v := 0) hx hb dX12_lay_9 (by decide) ?_
      refine lv_istore_n (lv' := [(1, .int (0 : Int32)), (0, .ref (ad 0))]) hx hb dX12_lay_10 rfl hl (by decide) rfl (fun ls hl => ?_)
      obtain ⟨n, h⟩ := h
      exact blk11    n (0 : Int32) _ _ _ _ hW (lv_sub hl [1, 0] rfl) h
    · have h := h.2 c1003
      refine lv_iconst (v := (-1)) hx hb dX12_lay_7 (by decide) ?_
      exact kr _ _ _ _ _ _ hW h dX12_lay_8
  exact main _ _ _ hW hl
theorem hwX12_longOf_0 : (.fieldLink RX12 50 "FortyBeltsModel" "kind" "[I" : Cond) ∈ wsX12_longOf := (List.mem_cons_of_mem _ (List.mem_append_left _ (List.mem_of_getElem? (i := 3) rfl)))
theorem hwX12_longOf_1 : (.fieldLink RX12 23 "FortyBeltsModel" "place" "[I" : Cond) ∈ wsX12_longOf := (List.mem_cons_of_mem _ (List.mem_append_left _ (List.mem_of_getElem? (i := 0) rfl)))
theorem hwX12_longOf_2 : (.fieldLink RX12 53 "FortyBeltsModel" "driver" "[I" : Cond) ∈ wsX12_longOf := (List.mem_cons_of_mem _ (List.mem_append_left _ (List.mem_of_getElem? (i := 1) rfl)))
theorem hwX12_longOf_3 : (.fieldLink RX12 56 "FortyBeltsModel" "driven" "[I" : Cond) ∈ wsX12_longOf := (List.mem_cons_of_mem _ (List.mem_append_left _ (List.mem_of_getElem? (i := 2) rfl)))
theorem hcX12_longOf_X12 : ∀ w ∈ wsX120, w ∈ wsX12_longOf := fun _ h => (List.mem_cons_of_mem _ (List.mem_append_right _ h))
set_option maxHeartbeats 4000000 in
set_option maxRecDepth 100000 in
theorem J_X12_longOf {D : va_G} {KA : Nat → ClassId} {zs : ZS} {ad : Nat → Nat} {ids : List Nat} {sz : Nat} (l : Launch) (hI : ∀ c, c < 35 → c ∈ ids) {a1 : Int32}  {σ : St} {post : Int32 → St → Prop} (h : wX12_longOf  a1 σ post) : Met l yX12_longOf wsX12_longOf rmX12_longOf (va_Pc [.ref (ad 0), .int a1] (xIn D KA zs layR stR ad ids sz σ)) (va_Qi post (xOut D KA layR stR ad ids) (xA ad ids sz)) 0 0 (xA ad ids sz) := by
  refine Met.ofW (cc := cX12_longOf) (maxL := 5) (ret := (some .int)) (by decide) rfl ?_
  intro p e s m args below meth c s₁ B hml hv
  obtain ⟨hav, hsz, hK, hZ, hP, hD⟩ := hv
  have hx := B.exec
  have hb := B.bytes
  have hr := B.returns
  have hts := atoms_spec (ws := wsX12_longOf) B.pre
  have hown : s.vm.findClass RX12 = some m.cls := findClass_of_methodNamed B.named
  have hlocks := B.notSynchronized
  subst hsz
  have hA : ∀ q : Nat, s.heap.size ≤ q → xA ad ids s.heap.size q := fun q h => Or.inr h
  have hW : xW D KA layR stR ad ids (xA ad ids s.heap.size) s.heap σ s.heap [] := ⟨hP, xA_D (D := D) hD, va_S.rf⟩
  have kr : ∀ (v : Int32) (σ : St) (H : Heap) (locs : List Loc) (ls : Array Slot) (pc : Nat), xW D KA layR stR ad ids (xA ad ids s.heap.size) s.heap σ H locs → post v σ → decode cX12_longOf pc = .ok (.ireturn, 1) → W p l e rmX12_longOf s m args below meth c H locs 0 0 (MQ below (va_Qi post (xOut D KA layR stR ad ids) (xA ad ids s.heap.size)) args s 0 0 (xA ad ids s.heap.size)) (F0 m pc ls [.int v]) := fun v σ H locs ls pc hW h hd => x_iret hx hb hr hlocks hW h hd
  have hl := lv_entry ([.ref (ad 0), .int a1]) (n := 5) (Nat.le_of_ble_eq_true rfl)
  rw [show entryFrame m args 5 = entryFrame m ([.ref (ad 0), .int a1] : List Value).toArray 5 from by rw [hav]]
  rw [lg_entry_eq]
  generalize (lg_sl ([.ref (ad 0), .int a1]) ++ List.replicate (5 - (lg_sl ([.ref (ad 0), .int a1])).length) Slot.unset).toArray = ls at hl ⊢
  have hl : lv_has ls 5 [(0, .ref (ad 0)), (1, .int a1)] := hl
  show W p l e rmX12_longOf s m args below meth c s.heap [] 0 0 _ _
  generalize MQ below (va_Qi post (xOut D KA layR stR ad ids) (xA ad ids s.heap.size)) args s 0 0 (xA ad ids s.heap.size) = Q at kr ⊢
  have blk103 : ∀ (s0 : Int32) (σ : St) (H : Heap) (locs : List Loc) (ls : Array Slot), xW D KA layR stR ad ids (xA ad ids s.heap.size) s.heap σ H locs → lv_has ls 5 [] → wX12_longOf_103 post s0 σ → W p l e rmX12_longOf s m args below meth c H locs 0 0 Q (F0 m 103 ls [.int s0]) := by
    intro   s0 σ H locs ls hW hl h
    unfold wX12_longOf_103 at h
    exact kr _ _ _ _ _ _ hW h dX12_longOf_103
  have blk76 : ∀ (x3 : Int32) (x4 : Int32) (σ : St) (H : Heap) (locs : List Loc) (ls : Array Slot), xW D KA layR stR ad ids (xA ad ids s.heap.size) s.heap σ H locs → lv_has ls 5 [(3, .int x3), (4, .int x4)] → wX12_longOf_76 post x3 x4 σ → W p l e rmX12_longOf s m args below meth c H locs 0 0 Q (F0 m 76 ls []) := by
    intro   x3 x4 σ H locs ls hW hl h
    unfold wX12_longOf_76 at h
    refine lv_iload hx hb dX12_longOf_76 (lv_at hl 1 rfl) ?_
    refine lv_iload_n hx hb dX12_longOf_78 rfl (lv_at hl 0 rfl) ?_
    refine lv_iadd hx hb dX12_longOf_79 ?_
    refine lv_goto (tgt := 103) hx hb dX12_longOf_80 (by decide) ?_
    exact blk103   (x4 + x3) _ _ _ _ hW (lv_sub hl [] rfl) h
  have blk47 : ∀ (x1 : Int32) (x3 : Int32) (s0 : Int32) (s1 : Int32) (σ : St) (H : Heap) (locs : List Loc) (ls : Array Slot), xW D KA layR stR ad ids (xA ad ids s.heap.size) s.heap σ H locs → lv_has ls 5 [(0, .ref (ad 0)), (1, .int x1), (3, .int x3)] → wX12_longOf_47 post x1 x3 s0 s1 σ → W p l e rmX12_longOf s m args below meth c H locs 0 0 Q (F0 m 47 ls [.int s1, .int s0]) := by
    intro   x1 x3 s0 s1 σ H locs ls hW hl h
    unfold wX12_longOf_47 at h
    refine lv_imul hx hb dX12_longOf_47 ?_
    refine lv_iconst (v := 3) hx hb dX12_longOf_48 (by decide) ?_
    refine lv_iload_n hx hb dX12_longOf_49 rfl (lv_at hl 2 rfl) ?_
    refine lv_imul hx hb dX12_longOf_50 ?_
    refine lv_iconst (v := 2) hx hb dX12_longOf_51 (by decide) ?_
    refine lv_idiv hx hb dX12_longOf_52 (by decide) ?_
    refine lv_iadd hx hb dX12_longOf_53 ?_
    refine lv_topi (fun v1 hv1 => ?_)
    have h := h v1 hv1
    refine lv_istore (lv' := [(4, .int v1), (0, .ref (ad 0)), (1, .int x1), (3, .int x3)]) hx hb dX12_longOf_54 hl (by decide) rfl (fun ls hl => ?_)
    refine lv_aload_n hx hb dX12_longOf_56 rfl (lv_at hl 1 rfl) ?_
    refine xgX12_21r hx hb hts hown hK hW 0 hcX12_longOf_X12 (hI 0 (by decide)) lR_0 (hts _ hwX12_longOf_0) (sR_0_21 _) dX12_longOf_57 ?_
    refine lv_iload_n hx hb dX12_longOf_60 rfl (lv_at hl 2 rfl) ?_
    obtain ⟨hi2, h⟩ := h
    refine x_iald hx hb hK hW 13 (hI 13 (by decide)) lR_13 hi2 dX12_longOf_61 ?_
    refine lv_iconst (v := 1) hx hb dX12_longOf_62 (by decide) ?_
    refine lv_icmp_eq (tgt := 76) hx hb dX12_longOf_63 (by decide) (fun c3 => ?_) (fun c3 => ?_)
    · have h := h.1 c3
      exact blk76   x3 v1 _ _ _ _ hW (lv_sub hl [3, 0] rfl) h
    · have h := h.2 c3
      refine lv_aload_n hx hb dX12_longOf_66 rfl (lv_at hl 1 rfl) ?_
      refine xgX12_21r hx hb hts hown hK hW 0 hcX12_longOf_X12 (hI 0 (by decide)) lR_0 (hts _ hwX12_longOf_0) (sR_0_21 _) dX12_longOf_67 ?_
      refine lv_iload_n hx hb dX12_longOf_70 rfl (lv_at hl 2 rfl) ?_
      refine x_iald hx hb hK hW 13 (hI 13 (by decide)) lR_13 hi2 dX12_longOf_71 ?_
      refine lv_iconst (v := 5) hx hb dX12_longOf_72 (by decide) ?_
      refine lv_icmp_ne (tgt := 83) hx hb dX12_longOf_73 (by decide) (fun c5 => ?_) (fun c5 => ?_)
      · have h := h.1 c5
        refine lv_aload_n hx hb dX12_longOf_83 rfl (lv_at hl 1 rfl) ?_
        refine xgX12_21r hx hb hts hown hK hW 0 hcX12_longOf_X12 (hI 0 (by decide)) lR_0 (hts _ hwX12_longOf_0) (sR_0_21 _) dX12_longOf_84 ?_
        refine lv_iload_n hx hb dX12_longOf_87 rfl (lv_at hl 2 rfl) ?_
        refine x_iald hx hb hK hW 13 (hI 13 (by decide)) lR_13 hi2 dX12_longOf_88 ?_
        refine lv_iconst (v := 2) hx hb dX12_longOf_89 (by decide) ?_
        refine lv_icmp_ne (tgt := 101) hx hb dX12_longOf_90 (by decide) (fun c7 => ?_) (fun c7 => ?_)
        · have h := h.1 c7
          refine lv_iload hx hb dX12_longOf_101 (lv_at hl 0 rfl) ?_
          exact blk103   v1 _ _ _ _ hW (lv_sub hl [] rfl) h
        · have h := h.2 c7
          refine lv_iload hx hb dX12_longOf_93 (lv_at hl 0 rfl) ?_
          refine lv_bipush (v := 10) hx hb dX12_longOf_95 (by decide) ?_
          refine lv_iadd hx hb dX12_longOf_97 ?_
          refine lv_goto (tgt := 103) hx hb dX12_longOf_98 (by decide) ?_
          exact blk103   (v1 + (10 : Int32)) _ _ _ _ hW (lv_sub hl [] rfl) h
      · have h := h.2 c5
        exact blk76   x3 v1 _ _ _ _ hW (lv_sub hl [3, 0] rfl) h
  have main : ∀ (H : Heap) (locs : List Loc) (ls : Array Slot), xW D KA layR stR ad ids (xA ad ids s.heap.size) s.heap σ H locs → lv_has ls 5 [(0, .ref (ad 0)), (1, .int a1)] → W p l e rmX12_longOf s m args below meth c H locs 0 0 Q (F0 m 0 ls []) := by
    intro H locs ls hW hl
    unfold wX12_longOf at h
    refine lv_aload_n hx hb dX12_longOf_0 rfl (lv_at hl 0 rfl) ?_
    refine xgX12_7r hx hb hts hown hK hW 0 hcX12_longOf_X12 (hI 0 (by decide)) lR_0 (hts _ hwX12_longOf_1) (sR_0_7 _) dX12_longOf_1 ?_
    refine lv_aload_n hx hb dX12_longOf_4 rfl (lv_at hl 0 rfl) ?_
    refine xgX12_22r hx hb hts hown hK hW 0 hcX12_longOf_X12 (hI 0 (by decide)) lR_0 (hts _ hwX12_longOf_2) (sR_0_22 _) dX12_longOf_5 ?_
    refine lv_iload_n hx hb dX12_longOf_8 rfl (lv_at hl 1 rfl) ?_
    obtain ⟨hi1001, h⟩ := h
    refine x_iald hx hb hK hW 14 (hI 14 (by decide)) lR_14 hi1001 dX12_longOf_9 ?_
    obtain ⟨hi1002, h⟩ := h
    refine x_iald hx hb hK hW 4 (hI 4 (by decide)) lR_4 hi1002 dX12_longOf_10 ?_
    refine lv_aload_n hx hb dX12_longOf_11 rfl (lv_at hl 0 rfl) ?_
    refine xgX12_7r hx hb hts hown hK hW 0 hcX12_longOf_X12 (hI 0 (by decide)) lR_0 (hts _ hwX12_longOf_1) (sR_0_7 _) dX12_longOf_12 ?_
    refine lv_aload_n hx hb dX12_longOf_15 rfl (lv_at hl 0 rfl) ?_
    refine xgX12_23r hx hb hts hown hK hW 0 hcX12_longOf_X12 (hI 0 (by decide)) lR_0 (hts _ hwX12_longOf_3) (sR_0_23 _) dX12_longOf_16 ?_
    refine lv_iload_n hx hb dX12_longOf_19 rfl (lv_at hl 1 rfl) ?_
    refine x_iald hx hb hK hW 15 (hI 15 (by decide)) lR_15 hi1001 dX12_longOf_20 ?_
    obtain ⟨hi1004, h⟩ := h
    refine x_iald hx hb hK hW 4 (hI 4 (by decide)) lR_4 hi1004 dX12_longOf_21 ?_
    refine lv_isub hx hb dX12_longOf_22 ?_
    refine lv_topi (fun v1005 hv1005 => ?_)
    have h := h v1005 hv1005
    refine lv_istore_n (lv' := [(2, .int v1005), (0, .ref (ad 0)), (1, .int a1)]) hx hb dX12_longOf_23 rfl hl (by decide) rfl (fun ls hl => ?_)
    refine lv_aload_n hx hb dX12_longOf_24 rfl (lv_at hl 1 rfl) ?_
    refine lv_iload_n hx hb dX12_longOf_25 rfl (lv_at hl 2 rfl) ?_
    refine x_calli (va_runV (As := [.int a1]) (rest := []) ⟨hx, hb, hml, hown, hts⟩ (J_X12_sizeA l hI h) (cwV 1 hts gX12_longOf_X12_sizeA rfl rfl rfl hdV_X12_sizeA ⟨Nat.le_of_ble_eq_true rfl, Nat.le_of_ble_eq_true rfl⟩) (x_preV (ci := 12) hK hZ hA hW (hI 0 (by decide)) lR_0 rfl) rfl rfl hl.1 rfl (lv_room (Nat.le_of_ble_eq_true rfl)) dX12_longOf_26 ⟨Nat.zero_le _, Nat.zero_le _⟩) hW hA (fun r1007 σ1006 H locs h hW => ?_)
    try dsimp only at h
    refine lv_aload_n hx hb dX12_longOf_29 rfl (lv_at hl 1 rfl) ?_
    refine lv_iload_n hx hb dX12_longOf_30 rfl (lv_at hl 2 rfl) ?_
    refine x_calli (va_runV (As := [.int a1]) (rest := [.int r1007]) ⟨hx, hb, hml, hown, hts⟩ (J_X12_sizeB l hI h) (cwV 1 hts gX12_longOf_X12_sizeB rfl rfl rfl hdV_X12_sizeB ⟨Nat.le_of_ble_eq_true rfl, Nat.le_of_ble_eq_true rfl⟩) (x_preV (ci := 12) hK hZ hA hW (hI 0 (by decide)) lR_0 rfl) rfl rfl hl.1 rfl (lv_room (Nat.le_of_ble_eq_true rfl)) dX12_longOf_31 ⟨Nat.zero_le _, Nat.zero_le _⟩) hW hA (fun r1009 σ1008 H locs h hW => ?_)
    try dsimp only at h
    refine lv_iadd hx hb dX12_longOf_34 ?_
    refine lv_topi (fun v1010 hv1010 => ?_)
    have h := h v1010 hv1010
    refine lv_istore_n (lv' := [(3, .int v1010), (2, .int v1005), (0, .ref (ad 0)), (1, .int a1)]) hx hb dX12_longOf_35 rfl hl (by decide) rfl (fun ls hl => ?_)
    refine lv_iconst (v := 2) hx hb dX12_longOf_36 (by decide) ?_
    refine lv_iload_n hx hb dX12_longOf_37 rfl (lv_at hl 1 rfl) ?_
    refine lv_if_ge (tgt := 46) hx hb dX12_longOf_38 (by decide) (fun c1011 => ?_) (fun c1011 => ?_)
    · have h := h.1 c1011
      refine lv_iload_n hx hb dX12_longOf_46 rfl (lv_at hl 1 rfl) ?_
      exact blk47   a1 v1010 (2 : Int32) v1005 _ _ _ _ hW (lv_sub hl [2, 3, 0] rfl) h
    · have h := h.2 c1011
      refine lv_iload_n hx hb dX12_longOf_41 rfl (lv_at hl 1 rfl) ?_
      refine lv_ineg hx hb dX12_longOf_42 ?_
      refine lv_goto (tgt := 47) hx hb dX12_longOf_43 (by decide) ?_
      exact blk47   a1 v1010 (2 : Int32) (-v1005) _ _ _ _ hW (lv_sub hl [2, 3, 0] rfl) h
  exact main _ _ _ hW hl
theorem hwX12_machine_0 : (.constantLong RX12 173 (999) : Cond) ∈ wsX12_machine := (List.mem_cons_of_mem _ (List.mem_append_left _ (List.mem_of_getElem? (i := 0) rfl)))
theorem hwX12_machine_1 : (.constantLong RX12 179 (99999999) : Cond) ∈ wsX12_machine := (List.mem_cons_of_mem _ (List.mem_append_left _ (List.mem_of_getElem? (i := 1) rfl)))
theorem hwX12_machine_2 : (.constantLong RX12 181 (24) : Cond) ∈ wsX12_machine := (List.mem_cons_of_mem _ (List.mem_append_left _ (List.mem_of_getElem? (i := 2) rfl)))
theorem hwX12_machine_3 : (.fieldLink RX12 160 "FortyBeltsModel" "machines" "I" : Cond) ∈ wsX12_machine := (List.mem_cons_of_mem _ (List.mem_append_left _ (List.mem_of_getElem? (i := 3) rfl)))
theorem hwX12_machine_4 : (.fieldLink RX12 29 "FortyBeltsModel" "shaftOf" "[I" : Cond) ∈ wsX12_machine := (List.mem_cons_of_mem _ (List.mem_append_left _ (List.mem_of_getElem? (i := 4) rfl)))
theorem hwX12_machine_5 : (.fieldLink RX12 32 "FortyBeltsModel" "load" "[I" : Cond) ∈ wsX12_machine := (List.mem_cons_of_mem _ (List.mem_append_left _ (List.mem_of_getElem? (i := 5) rfl)))
theorem hwX12_machine_6 : (.fieldLink RX12 35 "FortyBeltsModel" "wantsFrom" "[I" : Cond) ∈ wsX12_machine := (List.mem_cons_of_mem _ (List.mem_append_left _ (List.mem_of_getElem? (i := 6) rfl)))
theorem hwX12_machine_7 : (.fieldLink RX12 38 "FortyBeltsModel" "wantsTo" "[I" : Cond) ∈ wsX12_machine := (List.mem_cons_of_mem _ (List.mem_append_left _ (List.mem_of_getElem? (i := 7) rfl)))
theorem hwX12_machine_8 : (.fieldLink RX12 41 "FortyBeltsModel" "hours" "[I" : Cond) ∈ wsX12_machine := (List.mem_cons_of_mem _ (List.mem_append_left _ (List.mem_of_getElem? (i := 8) rfl)))
theorem hwX12_machine_9 : (.fieldLink RX12 44 "FortyBeltsModel" "isRun" "[I" : Cond) ∈ wsX12_machine := (List.mem_cons_of_mem _ (List.mem_append_left _ (List.mem_of_getElem? (i := 9) rfl)))
theorem hcX12_machine_X12 : ∀ w ∈ wsX120, w ∈ wsX12_machine := fun _ h => (List.mem_cons_of_mem _ (List.mem_append_right _ h))
set_option maxHeartbeats 4000000 in
set_option maxRecDepth 100000 in
theorem J_X12_machine {D : va_G} {KA : Nat → ClassId} {zs : ZS} {ad : Nat → Nat} {ids : List Nat} {sz : Nat} (l : Launch) (hI : ∀ c, c < 35 → c ∈ ids) {a1 : Int32} {a2 : Int32} {a3 : Int32} {a4 : Int32}  {σ : St} {post : Int32 → St → Prop} (h : wX12_machine  a1 a2 a3 a4 σ post) : Met l yX12_machine wsX12_machine rmX12_machine (va_Pc [.ref (ad 0), .int a1, .int a2, .int a3, .int a4] (xIn D KA zs layR stR ad ids sz σ)) (va_Qi post (xOut D KA layR stR ad ids) (xA ad ids sz)) 0 0 (xA ad ids sz) := by
  refine Met.ofW (cc := cX12_machine) (maxL := 5) (ret := (some .int)) (by decide) rfl ?_
  intro p e s m args below meth c s₁ B hml hv
  obtain ⟨hav, hsz, hK, hZ, hP, hD⟩ := hv
  have hx := B.exec
  have hb := B.bytes
  have hr := B.returns
  have hts := atoms_spec (ws := wsX12_machine) B.pre
  have hown : s.vm.findClass RX12 = some m.cls := findClass_of_methodNamed B.named
  have hlocks := B.notSynchronized
  subst hsz
  have hA : ∀ q : Nat, s.heap.size ≤ q → xA ad ids s.heap.size q := fun q h => Or.inr h
  have hW : xW D KA layR stR ad ids (xA ad ids s.heap.size) s.heap σ s.heap [] := ⟨hP, xA_D (D := D) hD, va_S.rf⟩
  have kr : ∀ (v : Int32) (σ : St) (H : Heap) (locs : List Loc) (ls : Array Slot) (pc : Nat), xW D KA layR stR ad ids (xA ad ids s.heap.size) s.heap σ H locs → post v σ → decode cX12_machine pc = .ok (.ireturn, 1) → W p l e rmX12_machine s m args below meth c H locs 0 0 (MQ below (va_Qi post (xOut D KA layR stR ad ids) (xA ad ids s.heap.size)) args s 0 0 (xA ad ids s.heap.size)) (F0 m pc ls [.int v]) := fun v σ H locs ls pc hW h hd => x_iret hx hb hr hlocks hW h hd
  have hl := lv_entry ([.ref (ad 0), .int a1, .int a2, .int a3, .int a4]) (n := 5) (Nat.le_of_ble_eq_true rfl)
  rw [show entryFrame m args 5 = entryFrame m ([.ref (ad 0), .int a1, .int a2, .int a3, .int a4] : List Value).toArray 5 from by rw [hav]]
  rw [lg_entry_eq]
  generalize (lg_sl ([.ref (ad 0), .int a1, .int a2, .int a3, .int a4]) ++ List.replicate (5 - (lg_sl ([.ref (ad 0), .int a1, .int a2, .int a3, .int a4])).length) Slot.unset).toArray = ls at hl ⊢
  have hl : lv_has ls 5 [(0, .ref (ad 0)), (1, .int a1), (2, .int a2), (3, .int a3), (4, .int a4)] := hl
  show W p l e rmX12_machine s m args below meth c s.heap [] 0 0 _ _
  generalize MQ below (va_Qi post (xOut D KA layR stR ad ids) (xA ad ids s.heap.size)) args s 0 0 (xA ad ids s.heap.size) = Q at kr ⊢
  have blk58 : ∀ (σ : St) (H : Heap) (locs : List Loc) (ls : Array Slot), xW D KA layR stR ad ids (xA ad ids s.heap.size) s.heap σ H locs → lv_has ls 5 [] → wX12_machine_58 post  σ → W p l e rmX12_machine s m args below meth c H locs 0 0 Q (F0 m 58 ls []) := by
    intro    σ H locs ls hW hl h
    unfold wX12_machine_58 at h
    refine lv_bipush (v := (-2)) hx hb dX12_machine_58 (by decide) ?_
    exact kr _ _ _ _ _ _ hW h dX12_machine_60
  have main : ∀ (H : Heap) (locs : List Loc) (ls : Array Slot), xW D KA layR stR ad ids (xA ad ids s.heap.size) s.heap σ H locs → lv_has ls 5 [(0, .ref (ad 0)), (1, .int a1), (2, .int a2), (3, .int a3), (4, .int a4)] → W p l e rmX12_machine s m args below meth c H locs 0 0 Q (F0 m 0 ls []) := by
    intro H locs ls hW hl
    unfold wX12_machine at h
    refine lv_aload_n hx hb dX12_machine_0 rfl (lv_at hl 0 rfl) ?_
    refine lv_iload_n hx hb dX12_machine_1 rfl (lv_at hl 1 rfl) ?_
    refine x_calli (va_runV (As := [.int a1]) (rest := []) ⟨hx, hb, hml, hown, hts⟩ (J_X12_isShaft l hI h) (cwV 1 hts gX12_machine_X12_isShaft rfl rfl rfl hdV_X12_isShaft ⟨Nat.le_of_ble_eq_true rfl, Nat.le_of_ble_eq_true rfl⟩) (x_preV (ci := 12) hK hZ hA hW (hI 0 (by decide)) lR_0 rfl) rfl rfl hl.1 rfl (lv_room (Nat.le_of_ble_eq_true rfl)) dX12_machine_2 ⟨Nat.zero_le _, Nat.zero_le _⟩) hW hA (fun r1002 σ1001 H locs h hW => ?_)
    try dsimp only at h
    refine lv_if_eq (tgt := 58) hx hb dX12_machine_5 (by decide) (fun c1003 => ?_) (fun c1003 => ?_)
    · have h := h.1 c1003
      exact blk58    _ _ _ _ hW (lv_sub hl [] rfl) h
    · have h := h.2 c1003
      refine lv_iload_n hx hb dX12_machine_8 rfl (lv_at hl 2 rfl) ?_
      refine lv_i2l hx hb dX12_machine_9 rfl ?_
      refine lv_lconst (v := 0) hx hb dX12_machine_10 (by decide) ?_
      refine lv_ldc2 hx hb hown (hts _ hwX12_machine_0) dX12_machine_11 ?_
      refine x_calli (va_runS (As := [.long (a2.toInt64), .long (0 : Int64), .long (999 : Int64)]) (rest := []) ⟨hx, hb, hml, hown, hts⟩ (J_X12_in l hI h) (va_cwS 3 hts gX12_machine_X12_in rfl rfl rfl hdS_X12_in ⟨Nat.le_of_ble_eq_true rfl, Nat.le_of_ble_eq_true rfl⟩) (x_preS hK hZ hA hW) rfl rfl hl.1 rfl (lv_room (Nat.le_of_ble_eq_true rfl)) dX12_machine_14 ⟨Nat.zero_le _, Nat.zero_le _⟩) hW hA (fun r1005 σ1004 H locs h hW => ?_)
      try dsimp only at h
      refine lv_if_eq (tgt := 58) hx hb dX12_machine_17 (by decide) (fun c1006 => ?_) (fun c1006 => ?_)
      · have h := h.1 c1006
        exact blk58    _ _ _ _ hW (lv_sub hl [] rfl) h
      · have h := h.2 c1006
        refine lv_iload_n hx hb dX12_machine_20 rfl (lv_at hl 3 rfl) ?_
        refine lv_i2l hx hb dX12_machine_21 rfl ?_
        refine lv_lconst (v := 0) hx hb dX12_machine_22 (by decide) ?_
        refine lv_ldc2 hx hb hown (hts _ hwX12_machine_1) dX12_machine_23 ?_
        refine x_calli (va_runS (As := [.long (a3.toInt64), .long (0 : Int64), .long (99999999 : Int64)]) (rest := []) ⟨hx, hb, hml, hown, hts⟩ (J_X12_in l hI h) (va_cwS 3 hts gX12_machine_X12_in rfl rfl rfl hdS_X12_in ⟨Nat.le_of_ble_eq_true rfl, Nat.le_of_ble_eq_true rfl⟩) (x_preS hK hZ hA hW) rfl rfl hl.1 rfl (lv_room (Nat.le_of_ble_eq_true rfl)) dX12_machine_26 ⟨Nat.zero_le _, Nat.zero_le _⟩) hW hA (fun r1008 σ1007 H locs h hW => ?_)
        try dsimp only at h
        refine lv_if_eq (tgt := 58) hx hb dX12_machine_29 (by decide) (fun c1009 => ?_) (fun c1009 => ?_)
        · have h := h.1 c1009
          exact blk58    _ _ _ _ hW (lv_sub hl [] rfl) h
        · have h := h.2 c1009
          refine lv_iload_n hx hb dX12_machine_32 rfl (lv_at hl 3 rfl) ?_
          refine lv_sipush (v := 10000) hx hb dX12_machine_33 (by decide) ?_
          refine lv_idiv hx hb dX12_machine_36 (by decide) ?_
          refine lv_iload_n hx hb dX12_machine_37 rfl (lv_at hl 3 rfl) ?_
          refine lv_sipush (v := 10000) hx hb dX12_machine_38 (by decide) ?_
          refine lv_irem hx hb dX12_machine_41 (by decide) ?_
          refine lv_icmp_gt (tgt := 58) hx hb dX12_machine_42 (by decide) (fun c1010 => ?_) (fun c1010 => ?_)
          · have h := h.1 c1010
            exact blk58    _ _ _ _ hW (lv_sub hl [] rfl) h
          · have h := h.2 c1010
            refine lv_iload hx hb dX12_machine_45 (lv_at hl 4 rfl) ?_
            refine lv_i2l hx hb dX12_machine_47 rfl ?_
            refine lv_lconst (v := 0) hx hb dX12_machine_48 (by decide) ?_
            refine lv_ldc2 hx hb hown (hts _ hwX12_machine_2) dX12_machine_49 ?_
            refine x_calli (va_runS (As := [.long (a4.toInt64), .long (0 : Int64), .long (24 : Int64)]) (rest := []) ⟨hx, hb, hml, hown, hts⟩ (J_X12_in l hI h) (va_cwS 3 hts gX12_machine_X12_in rfl rfl rfl hdS_X12_in ⟨Nat.le_of_ble_eq_true rfl, Nat.le_of_ble_eq_true rfl⟩) (x_preS hK hZ hA hW) rfl rfl hl.1 rfl (lv_room (Nat.le_of_ble_eq_true rfl)) dX12_machine_52 ⟨Nat.zero_le _, Nat.zero_le _⟩) hW hA (fun r1012 σ1011 H locs h hW => ?_)
            try dsimp only at h
            refine lv_if_ne (tgt := 61) hx hb dX12_machine_55 (by decide) (fun c1013 => ?_) (fun c1013 => ?_)
            · have h := h.1 c1013
              refine lv_aload_n hx hb dX12_machine_61 rfl (lv_at hl 0 rfl) ?_
              refine xgX12_18 hx hb hts hown hK hW 0 hcX12_machine_X12 (hI 0 (by decide)) lR_0 (hts _ hwX12_machine_3) dX12_machine_62 ?_
              refine lv_bipush (v := 10) hx hb dX12_machine_65 (by decide) ?_
              refine lv_icmp_ne (tgt := 73) hx hb dX12_machine_67 (by decide) (fun c1014 => ?_) (fun c1014 => ?_)
              · have h := h.1 c1014
                refine lv_aload_n hx hb dX12_machine_73 rfl (lv_at hl 0 rfl) ?_
                refine xgX12_12r hx hb hts hown hK hW 0 hcX12_machine_X12 (hI 0 (by decide)) lR_0 (hts _ hwX12_machine_4) (sR_0_12 _) dX12_machine_74 ?_
                refine lv_aload_n hx hb dX12_machine_77 rfl (lv_at hl 0 rfl) ?_
                refine xgX12_18 hx hb hts hown hK hW 0 hcX12_machine_X12 (hI 0 (by decide)) lR_0 (hts _ hwX12_machine_3) dX12_machine_78 ?_
                refine lv_iload_n hx hb dX12_machine_81 rfl (lv_at hl 1 rfl) ?_
                obtain ⟨hi1015, h⟩ := h
                refine x_iast hx hb hK hW 6 (hI 6 (by decide)) lR_6 hi1015 dX12_machine_82 (fun σ1016 H locs hσ1016 hW => ?_)
                have h := h σ1016 hσ1016
                refine lv_aload_n hx hb dX12_machine_83 rfl (lv_at hl 0 rfl) ?_
                refine xgX12_13r hx hb hts hown hK hW 0 hcX12_machine_X12 (hI 0 (by decide)) lR_0 (hts _ hwX12_machine_5) (sR_0_13 _) dX12_machine_84 ?_
                refine lv_aload_n hx hb dX12_machine_87 rfl (lv_at hl 0 rfl) ?_
                refine xgX12_18 hx hb hts hown hK hW 0 hcX12_machine_X12 (hI 0 (by decide)) lR_0 (hts _ hwX12_machine_3) dX12_machine_88 ?_
                refine lv_iload_n hx hb dX12_machine_91 rfl (lv_at hl 2 rfl) ?_
                obtain ⟨hi1017, h⟩ := h
                refine x_iast hx hb hK hW 7 (hI 7 (by decide)) lR_7 hi1017 dX12_machine_92 (fun σ1018 H locs hσ1018 hW => ?_)
                have h := h σ1018 hσ1018
                refine lv_aload_n hx hb dX12_machine_93 rfl (lv_at hl 0 rfl) ?_
                refine xgX12_14r hx hb hts hown hK hW 0 hcX12_machine_X12 (hI 0 (by decide)) lR_0 (hts _ hwX12_machine_6) (sR_0_14 _) dX12_machine_94 ?_
                refine lv_aload_n hx hb dX12_machine_97 rfl (lv_at hl 0 rfl) ?_
                refine xgX12_18 hx hb hts hown hK hW 0 hcX12_machine_X12 (hI 0 (by decide)) lR_0 (hts _ hwX12_machine_3) dX12_machine_98 ?_
                refine lv_iload_n hx hb dX12_machine_101 rfl (lv_at hl 3 rfl) ?_
                refine lv_sipush (v := 10000) hx hb dX12_machine_102 (by decide) ?_
                refine lv_idiv hx hb dX12_machine_105 (by decide) ?_
                obtain ⟨hi1019, h⟩ := h
                refine x_iast hx hb hK hW 8 (hI 8 (by decide)) lR_8 hi1019 dX12_machine_106 (fun σ1020 H locs hσ1020 hW => ?_)
                have h := h σ1020 hσ1020
                refine lv_aload_n hx hb dX12_machine_107 rfl (lv_at hl 0 rfl) ?_
                refine xgX12_15r hx hb hts hown hK hW 0 hcX12_machine_X12 (hI 0 (by decide)) lR_0 (hts _ hwX12_machine_7) (sR_0_15 _) dX12_machine_108 ?_
                refine lv_aload_n hx hb dX12_machine_111 rfl (lv_at hl 0 rfl) ?_
                refine xgX12_18 hx hb hts hown hK hW 0 hcX12_machine_X12 (hI 0 (by decide)) lR_0 (hts _ hwX12_machine_3) dX12_machine_112 ?_
                refine lv_iload_n hx hb dX12_machine_115 rfl (lv_at hl 3 rfl) ?_
                refine lv_sipush (v := 10000) hx hb dX12_machine_116 (by decide) ?_
                refine lv_irem hx hb dX12_machine_119 (by decide) ?_
                obtain ⟨hi1021, h⟩ := h
                refine x_iast hx hb hK hW 9 (hI 9 (by decide)) lR_9 hi1021 dX12_machine_120 (fun σ1022 H locs hσ1022 hW => ?_)
                have h := h σ1022 hσ1022
                refine lv_aload_n hx hb dX12_machine_121 rfl (lv_at hl 0 rfl) ?_
                refine xgX12_16r hx hb hts hown hK hW 0 hcX12_machine_X12 (hI 0 (by decide)) lR_0 (hts _ hwX12_machine_8) (sR_0_16 _) dX12_machine_122 ?_
                refine lv_aload_n hx hb dX12_machine_125 rfl (lv_at hl 0 rfl) ?_
                refine xgX12_18 hx hb hts hown hK hW 0 hcX12_machine_X12 (hI 0 (by decide)) lR_0 (hts _ hwX12_machine_3) dX12_machine_126 ?_
                refine lv_iload hx hb dX12_machine_129 (lv_at hl 4 rfl) ?_
                obtain ⟨hi1023, h⟩ := h
                refine x_iast hx hb hK hW 10 (hI 10 (by decide)) lR_10 hi1023 dX12_machine_131 (fun σ1024 H locs hσ1024 hW => ?_)
                have h := h σ1024 hσ1024
                refine lv_aload_n hx hb dX12_machine_132 rfl (lv_at hl 0 rfl) ?_
                refine xgX12_17r hx hb hts hown hK hW 0 hcX12_machine_X12 (hI 0 (by decide)) lR_0 (hts _ hwX12_machine_9) (sR_0_17 _) dX12_machine_133 ?_
                refine lv_aload_n hx hb dX12_machine_136 rfl (lv_at hl 0 rfl) ?_
                refine xgX12_18 hx hb hts hown hK hW 0 hcX12_machine_X12 (hI 0 (by decide)) lR_0 (hts _ hwX12_machine_3) dX12_machine_137 ?_
                refine lv_iconst (v := 1) hx hb dX12_machine_140 (by decide) ?_
                obtain ⟨hi1025, h⟩ := h
                refine x_iast hx hb hK hW 11 (hI 11 (by decide)) lR_11 hi1025 dX12_machine_141 (fun σ1026 H locs hσ1026 hW => ?_)
                have h := h σ1026 hσ1026
                refine lv_aload_n hx hb dX12_machine_142 rfl (lv_at hl 0 rfl) ?_
                refine lv_dup hx hb dX12_machine_143 rfl ?_
                refine xgX12_18 hx hb hts hown hK hW 0 hcX12_machine_X12 (hI 0 (by decide)) lR_0 (hts _ hwX12_machine_3) dX12_machine_144 ?_
                refine lv_iconst (v := 1) hx hb dX12_machine_147 (by decide) ?_
                refine lv_iadd hx hb dX12_machine_148 ?_
                refine xpX12_18 hx hb hts hown hK hW 0 hcX12_machine_X12 (hI 0 (by decide)) lR_0 (hts _ hwX12_machine_3) dX12_machine_149 (fun σ1027 H locs hσ1027 hW => ?_)
                have h := h σ1027 hσ1027
                refine lv_aload_n hx hb dX12_machine_152 rfl (lv_at hl 0 rfl) ?_
                refine xgX12_18 hx hb hts hown hK hW 0 hcX12_machine_X12 (hI 0 (by decide)) lR_0 (hts _ hwX12_machine_3) dX12_machine_153 ?_
                refine lv_iconst (v := 1) hx hb dX12_machine_156 (by decide) ?_
                refine lv_isub hx hb dX12_machine_157 ?_
                exact kr _ _ _ _ _ _ hW h dX12_machine_158
              · have h := h.2 c1014
                refine lv_bipush (v := (-4)) hx hb dX12_machine_70 (by decide) ?_
                exact kr _ _ _ _ _ _ hW h dX12_machine_72
            · have h := h.2 c1013
              exact blk58    _ _ _ _ hW (lv_sub hl [] rfl) h
  exact main _ _ _ hW hl
theorem hwX12_nextOn_0 : (.fieldLink RX12 166 "FortyBeltsModel" "belts" "I" : Cond) ∈ wsX12_nextOn := (List.mem_cons_of_mem _ (List.mem_append_left _ (List.mem_of_getElem? (i := 0) rfl)))
theorem hwX12_nextOn_1 : (.fieldLink RX12 93 "FortyBeltsModel" "wasOn" "[I" : Cond) ∈ wsX12_nextOn := (List.mem_cons_of_mem _ (List.mem_append_left _ (List.mem_of_getElem? (i := 1) rfl)))
theorem hwX12_nextOn_2 : (.fieldLink RX12 68 "FortyBeltsModel" "isOn" "[I" : Cond) ∈ wsX12_nextOn := (List.mem_cons_of_mem _ (List.mem_append_left _ (List.mem_of_getElem? (i := 2) rfl)))
theorem hwX12_nextOn_3 : (.fieldLink RX12 81 "FortyBeltsModel" "ways" "[I" : Cond) ∈ wsX12_nextOn := (List.mem_cons_of_mem _ (List.mem_append_left _ (List.mem_of_getElem? (i := 3) rfl)))
theorem hwX12_nextOn_4 : (.fieldLink RX12 53 "FortyBeltsModel" "driver" "[I" : Cond) ∈ wsX12_nextOn := (List.mem_cons_of_mem _ (List.mem_append_left _ (List.mem_of_getElem? (i := 4) rfl)))
theorem hcX12_nextOn_X12 : ∀ w ∈ wsX120, w ∈ wsX12_nextOn := fun _ h => (List.mem_cons_of_mem _ (List.mem_append_right _ h))
set_option maxHeartbeats 4000000 in
set_option maxRecDepth 100000 in
theorem J_X12_nextOn {D : va_G} {KA : Nat → ClassId} {zs : ZS} {ad : Nat → Nat} {ids : List Nat} {sz : Nat} (l : Launch) (hI : ∀ c, c < 35 → c ∈ ids)   {σ : St} {post : Int32 → St → Prop} (h : wX12_nextOn   σ post) : Met l yX12_nextOn wsX12_nextOn rmX12_nextOn (va_Pc [.ref (ad 0)] (xIn D KA zs layR stR ad ids sz σ)) (va_Qi post (xOut D KA layR stR ad ids) (xA ad ids sz)) 0 0 (xA ad ids sz) := by
  refine Met.ofW (cc := cX12_nextOn) (maxL := 2) (ret := (some .int)) (by decide) rfl ?_
  intro p e s m args below meth c s₁ B hml hv
  obtain ⟨hav, hsz, hK, hZ, hP, hD⟩ := hv
  have hx := B.exec
  have hb := B.bytes
  have hr := B.returns
  have hts := atoms_spec (ws := wsX12_nextOn) B.pre
  have hown : s.vm.findClass RX12 = some m.cls := findClass_of_methodNamed B.named
  have hlocks := B.notSynchronized
  subst hsz
  have hA : ∀ q : Nat, s.heap.size ≤ q → xA ad ids s.heap.size q := fun q h => Or.inr h
  have hW : xW D KA layR stR ad ids (xA ad ids s.heap.size) s.heap σ s.heap [] := ⟨hP, xA_D (D := D) hD, va_S.rf⟩
  have kr : ∀ (v : Int32) (σ : St) (H : Heap) (locs : List Loc) (ls : Array Slot) (pc : Nat), xW D KA layR stR ad ids (xA ad ids s.heap.size) s.heap σ H locs → post v σ → decode cX12_nextOn pc = .ok (.ireturn, 1) → W p l e rmX12_nextOn s m args below meth c H locs 0 0 (MQ below (va_Qi post (xOut D KA layR stR ad ids) (xA ad ids s.heap.size)) args s 0 0 (xA ad ids s.heap.size)) (F0 m pc ls [.int v]) := fun v σ H locs ls pc hW h hd => x_iret hx hb hr hlocks hW h hd
  have hl := lv_entry ([.ref (ad 0)]) (n := 2) (Nat.le_of_ble_eq_true rfl)
  rw [show entryFrame m args 2 = entryFrame m ([.ref (ad 0)] : List Value).toArray 2 from by rw [hav]]
  rw [lg_entry_eq]
  generalize (lg_sl ([.ref (ad 0)]) ++ List.replicate (2 - (lg_sl ([.ref (ad 0)])).length) Slot.unset).toArray = ls at hl ⊢
  have hl : lv_has ls 2 [(0, .ref (ad 0))] := hl
  show W p l e rmX12_nextOn s m args below meth c s.heap [] 0 0 _ _
  generalize MQ below (va_Qi post (xOut D KA layR stR ad ids) (xA ad ids s.heap.size)) args s 0 0 (xA ad ids s.heap.size) = Q at kr ⊢
  have blk45 : ∀ (k2 : Int32 → St → Prop) (hk2 : ∀ (x1 : Int32) (σ : St) (H : Heap) (locs : List Loc) (ls : Array Slot), xW D KA layR stR ad ids (xA ad ids s.heap.size) s.heap σ H locs → lv_has ls 2 [(0, .ref (ad 0)), (1, .int x1)] → k2 x1 σ → W p l e rmX12_nextOn s m args below meth c H locs 0 0 Q (F0 m 2 ls [])) (x1 : Int32) (σ : St) (H : Heap) (locs : List Loc) (ls : Array Slot), xW D KA layR stR ad ids (xA ad ids s.heap.size) s.heap σ H locs → lv_has ls 2 [(0, .ref (ad 0)), (1, .int x1)] → wX12_nextOn_45 k2 post x1 σ → W p l e rmX12_nextOn s m args below meth c H locs 0 0 Q (F0 m 45 ls []) := by
    intro  k2 hk2 x1 σ H locs ls hW hl h
    unfold wX12_nextOn_45 at h
    obtain ⟨v1, hv1⟩ : ∃ y : Int32, y = x1 + (1 : Int32) := ⟨_, rfl⟩
    have h := h v1 hv1
    refine lv_iinc (v := v1) (lv' := [(1, .int v1), (0, .ref (ad 0))]) hx hb dX12_nextOn_45 hl (k := 1) rfl (by rw [hv1]; rfl) (by decide) rfl (fun ls hl => ?_)
    refine lv_goto (tgt := 2) hx hb dX12_nextOn_48 (by decide) ?_
    exact hk2 v1 _ _ _ _ hW (lv_sub hl [1, 0] rfl) h
  have blk2 : ∀ (n : Nat) (x1 : Int32) (σ : St) (H : Heap) (locs : List Loc) (ls : Array Slot), xW D KA layR stR ad ids (xA ad ids s.heap.size) s.heap σ H locs → lv_has ls 2 [(0, .ref (ad 0)), (1, .int x1)] → wX12_nextOn_2 post  n x1 σ → W p l e rmX12_nextOn s m args below meth c H locs 0 0 Q (F0 m 2 ls []) := by
    intro    n
    induction n with
    | zero => intro x1 σ H locs ls hW hl h; exact (h : False).elim
    | succ n ih =>
      intro x1 σ H locs ls hW hl h
      have hk2 : ∀ (x1 : Int32) (σ : St) (H : Heap) (locs : List Loc) (ls : Array Slot), xW D KA layR stR ad ids (xA ad ids s.heap.size) s.heap σ H locs → lv_has ls 2 [(0, .ref (ad 0)), (1, .int x1)] → (wX12_nextOn_2 post  n) x1 σ → W p l e rmX12_nextOn s m args below meth c H locs 0 0 Q (F0 m 2 ls []) := fun x1 σ H locs ls hW hl h => ih x1 σ H locs ls hW hl h
      rw [wX12_nextOn_2_s] at h
      try dsimp only at h
      generalize wX12_nextOn_2 post  n = k2 at h hk2
      refine lv_iload_n hx hb dX12_nextOn_2 rfl (lv_at hl 1 rfl) ?_
      refine lv_aload_n hx hb dX12_nextOn_3 rfl (lv_at hl 0 rfl) ?_
      refine xgX12_28 hx hb hts hown hK hW 0 hcX12_nextOn_X12 (hI 0 (by decide)) lR_0 (hts _ hwX12_nextOn_0) dX12_nextOn_4 ?_
      refine lv_icmp_ge (tgt := 51) hx hb dX12_nextOn_7 (by decide) (fun c2 => ?_) (fun c2 => ?_)
      · have h := h.1 c2
        refine lv_iconst (v := (-1)) hx hb dX12_nextOn_51 (by decide) ?_
        exact kr _ _ _ _ _ _ hW h dX12_nextOn_52
      · have h := h.2 c2
        refine lv_aload_n hx hb dX12_nextOn_10 rfl (lv_at hl 0 rfl) ?_
        refine xgX12_55r hx hb hts hown hK hW 0 hcX12_nextOn_X12 (hI 0 (by decide)) lR_0 (hts _ hwX12_nextOn_1) (sR_0_55 _) dX12_nextOn_11 ?_
        refine lv_iload_n hx hb dX12_nextOn_14 rfl (lv_at hl 1 rfl) ?_
        obtain ⟨hi3, h⟩ := h
        refine x_iald hx hb hK hW 25 (hI 25 (by decide)) lR_25 hi3 dX12_nextOn_15 ?_
        refine lv_iconst (v := 1) hx hb dX12_nextOn_16 (by decide) ?_
        refine lv_icmp_ne (tgt := 45) hx hb dX12_nextOn_17 (by decide) (fun c4 => ?_) (fun c4 => ?_)
        · have h := h.1 c4
          exact blk45  k2 hk2 x1 _ _ _ _ hW (lv_sub hl [0, 1] rfl) h
        · have h := h.2 c4
          refine lv_aload_n hx hb dX12_nextOn_20 rfl (lv_at hl 0 rfl) ?_
          refine xgX12_27r hx hb hts hown hK hW 0 hcX12_nextOn_X12 (hI 0 (by decide)) lR_0 (hts _ hwX12_nextOn_2) (sR_0_27 _) dX12_nextOn_21 ?_
          refine lv_iload_n hx hb dX12_nextOn_24 rfl (lv_at hl 1 rfl) ?_
          refine x_iald hx hb hK hW 19 (hI 19 (by decide)) lR_19 hi3 dX12_nextOn_25 ?_
          refine lv_if_ne (tgt := 45) hx hb dX12_nextOn_26 (by decide) (fun c6 => ?_) (fun c6 => ?_)
          · have h := h.1 c6
            exact blk45  k2 hk2 x1 _ _ _ _ hW (lv_sub hl [0, 1] rfl) h
          · have h := h.2 c6
            refine lv_aload_n hx hb dX12_nextOn_29 rfl (lv_at hl 0 rfl) ?_
            refine xgX12_33r hx hb hts hown hK hW 0 hcX12_nextOn_X12 (hI 0 (by decide)) lR_0 (hts _ hwX12_nextOn_3) (sR_0_33 _) dX12_nextOn_30 ?_
            refine lv_aload_n hx hb dX12_nextOn_33 rfl (lv_at hl 0 rfl) ?_
            refine xgX12_22r hx hb hts hown hK hW 0 hcX12_nextOn_X12 (hI 0 (by decide)) lR_0 (hts _ hwX12_nextOn_4) (sR_0_22 _) dX12_nextOn_34 ?_
            refine lv_iload_n hx hb dX12_nextOn_37 rfl (lv_at hl 1 rfl) ?_
            refine x_iald hx hb hK hW 14 (hI 14 (by decide)) lR_14 hi3 dX12_nextOn_38 ?_
            obtain ⟨hi8, h⟩ := h
            refine x_iald hx hb hK hW 22 (hI 22 (by decide)) lR_22 hi8 dX12_nextOn_39 ?_
            refine lv_if_eq (tgt := 45) hx hb dX12_nextOn_40 (by decide) (fun c9 => ?_) (fun c9 => ?_)
            · have h := h.1 c9
              exact blk45  k2 hk2 x1 _ _ _ _ hW (lv_sub hl [0, 1] rfl) h
            · have h := h.2 c9
              refine lv_iload_n hx hb dX12_nextOn_43 rfl (lv_at hl 1 rfl) ?_
              exact kr _ _ _ _ _ _ hW h dX12_nextOn_44
  have main : ∀ (H : Heap) (locs : List Loc) (ls : Array Slot), xW D KA layR stR ad ids (xA ad ids s.heap.size) s.heap σ H locs → lv_has ls 2 [(0, .ref (ad 0))] → W p l e rmX12_nextOn s m args below meth c H locs 0 0 Q (F0 m 0 ls []) := by
    intro H locs ls hW hl
    unfold wX12_nextOn at h
    refine lv_iconst (v := 0) hx hb dX12_nextOn_0 (by decide) ?_
    refine lv_istore_n (lv' := [(1, .int (0 : Int32)), (0, .ref (ad 0))]) hx hb dX12_nextOn_1 rfl hl (by decide) rfl (fun ls hl => ?_)
    obtain ⟨n, h⟩ := h
    exact blk2    n (0 : Int32) _ _ _ _ hW (lv_sub hl [1, 0] rfl) h
  exact main _ _ _ hW hl
set_option maxHeartbeats 4000000 in
set_option maxRecDepth 100000 in
theorem J_X12_off {D : va_G} {KA : Nat → ClassId} {zs : ZS} {ad : Nat → Nat} {ids : List Nat} {sz : Nat} (l : Launch) (hI : ∀ c, c < 35 → c ∈ ids) {a1 : Int32}  {σ : St} {post : Int32 → St → Prop} (h : wX12_off  a1 σ post) : Met l yX12_off wsX12_off rmX12_off (va_Pc [.ref (ad 0), .int a1] (xIn D KA zs layR stR ad ids sz σ)) (va_Qi post (xOut D KA layR stR ad ids) (xA ad ids sz)) 0 0 (xA ad ids sz) := by
  refine Met.ofW (cc := cX12_off) (maxL := 2) (ret := (some .int)) (by decide) rfl ?_
  intro p e s m args below meth c s₁ B hml hv
  obtain ⟨hav, hsz, hK, hZ, hP, hD⟩ := hv
  have hx := B.exec
  have hb := B.bytes
  have hr := B.returns
  have hts := atoms_spec (ws := wsX12_off) B.pre
  have hown : s.vm.findClass RX12 = some m.cls := findClass_of_methodNamed B.named
  have hlocks := B.notSynchronized
  subst hsz
  have hA : ∀ q : Nat, s.heap.size ≤ q → xA ad ids s.heap.size q := fun q h => Or.inr h
  have hW : xW D KA layR stR ad ids (xA ad ids s.heap.size) s.heap σ s.heap [] := ⟨hP, xA_D (D := D) hD, va_S.rf⟩
  have kr : ∀ (v : Int32) (σ : St) (H : Heap) (locs : List Loc) (ls : Array Slot) (pc : Nat), xW D KA layR stR ad ids (xA ad ids s.heap.size) s.heap σ H locs → post v σ → decode cX12_off pc = .ok (.ireturn, 1) → W p l e rmX12_off s m args below meth c H locs 0 0 (MQ below (va_Qi post (xOut D KA layR stR ad ids) (xA ad ids s.heap.size)) args s 0 0 (xA ad ids s.heap.size)) (F0 m pc ls [.int v]) := fun v σ H locs ls pc hW h hd => x_iret hx hb hr hlocks hW h hd
  have hl := lv_entry ([.ref (ad 0), .int a1]) (n := 2) (Nat.le_of_ble_eq_true rfl)
  rw [show entryFrame m args 2 = entryFrame m ([.ref (ad 0), .int a1] : List Value).toArray 2 from by rw [hav]]
  rw [lg_entry_eq]
  generalize (lg_sl ([.ref (ad 0), .int a1]) ++ List.replicate (2 - (lg_sl ([.ref (ad 0), .int a1])).length) Slot.unset).toArray = ls at hl ⊢
  have hl : lv_has ls 2 [(0, .ref (ad 0)), (1, .int a1)] := hl
  show W p l e rmX12_off s m args below meth c s.heap [] 0 0 _ _
  generalize MQ below (va_Qi post (xOut D KA layR stR ad ids) (xA ad ids s.heap.size)) args s 0 0 (xA ad ids s.heap.size) = Q at kr ⊢
  have blk18 : ∀ (s0 : Int32) (σ : St) (H : Heap) (locs : List Loc) (ls : Array Slot), xW D KA layR stR ad ids (xA ad ids s.heap.size) s.heap σ H locs → lv_has ls 2 [] → wX12_off_18 post s0 σ → W p l e rmX12_off s m args below meth c H locs 0 0 Q (F0 m 18 ls [.int s0]) := by
    intro   s0 σ H locs ls hW hl h
    unfold wX12_off_18 at h
    exact kr _ _ _ _ _ _ hW h dX12_off_18
  have main : ∀ (H : Heap) (locs : List Loc) (ls : Array Slot), xW D KA layR stR ad ids (xA ad ids s.heap.size) s.heap σ H locs → lv_has ls 2 [(0, .ref (ad 0)), (1, .int a1)] → W p l e rmX12_off s m args below meth c H locs 0 0 Q (F0 m 0 ls []) := by
    intro H locs ls hW hl
    unfold wX12_off at h
    refine lv_aload_n hx hb dX12_off_0 rfl (lv_at hl 0 rfl) ?_
    refine lv_iload_n hx hb dX12_off_1 rfl (lv_at hl 1 rfl) ?_
    refine x_calli (va_runV (As := [.int a1]) (rest := []) ⟨hx, hb, hml, hown, hts⟩ (J_X12_isBelt l hI h) (cwV 1 hts gX12_off_X12_isBelt rfl rfl rfl hdV_X12_isBelt ⟨Nat.le_of_ble_eq_true rfl, Nat.le_of_ble_eq_true rfl⟩) (x_preV (ci := 12) hK hZ hA hW (hI 0 (by decide)) lR_0 rfl) rfl rfl hl.1 rfl (lv_room (Nat.le_of_ble_eq_true rfl)) dX12_off_2 ⟨Nat.zero_le _, Nat.zero_le _⟩) hW hA (fun r1002 σ1001 H locs h hW => ?_)
    try dsimp only at h
    refine lv_if_eq (tgt := 16) hx hb dX12_off_5 (by decide) (fun c1003 => ?_) (fun c1003 => ?_)
    · have h := h.1 c1003
      refine lv_bipush (v := (-2)) hx hb dX12_off_16 (by decide) ?_
      exact blk18   (-2 : Int32) _ _ _ _ hW (lv_sub hl [] rfl) h
    · have h := h.2 c1003
      refine lv_aload_n hx hb dX12_off_8 rfl (lv_at hl 0 rfl) ?_
      refine lv_iload_n hx hb dX12_off_9 rfl (lv_at hl 1 rfl) ?_
      refine x_calli (va_runV (As := [.int a1]) (rest := []) ⟨hx, hb, hml, hown, hts⟩ (J_X12_standsBy l hI h) (cwV 1 hts gX12_off_X12_standsBy rfl rfl rfl hdV_X12_standsBy ⟨Nat.le_of_ble_eq_true rfl, Nat.le_of_ble_eq_true rfl⟩) (x_preV (ci := 12) hK hZ hA hW (hI 0 (by decide)) lR_0 rfl) rfl rfl hl.1 rfl (lv_room (Nat.le_of_ble_eq_true rfl)) dX12_off_10 ⟨Nat.zero_le _, Nat.zero_le _⟩) hW hA (fun r1005 σ1004 H locs h hW => ?_)
      try dsimp only at h
      refine lv_goto (tgt := 18) hx hb dX12_off_13 (by decide) ?_
      exact blk18   r1005 _ _ _ _ hW (lv_sub hl [] rfl) h
  exact main _ _ _ hW hl
set_option maxHeartbeats 4000000 in
set_option maxRecDepth 100000 in
theorem J_X12_over {D : va_G} {KA : Nat → ClassId} {zs : ZS} {ad : Nat → Nat} {ids : List Nat} {sz : Nat} (l : Launch) (hI : ∀ c, c < 35 → c ∈ ids) {a0 : Int32}  {σ : St} {post : Int32 → St → Prop} (h : wX12_over  a0 σ post) : Met l yX12_over wsX12_over rmX12_over (va_Pc [.int a0] (xIn D KA zs layR stR ad ids sz σ)) (va_Qi post (xOut D KA layR stR ad ids) (xA ad ids sz)) 0 0 (xA ad ids sz) := by
  refine Met.ofW (cc := cX12_over) (maxL := 1) (ret := (some .int)) (by decide) rfl ?_
  intro p e s m args below meth c s₁ B hml hv
  obtain ⟨hav, hsz, hK, hZ, hP, hD⟩ := hv
  have hx := B.exec
  have hb := B.bytes
  have hr := B.returns
  have hts := atoms_spec (ws := wsX12_over) B.pre
  have hown : s.vm.findClass RX12 = some m.cls := findClass_of_methodNamed B.named
  have hlocks := B.notSynchronized
  subst hsz
  have hA : ∀ q : Nat, s.heap.size ≤ q → xA ad ids s.heap.size q := fun q h => Or.inr h
  have hW : xW D KA layR stR ad ids (xA ad ids s.heap.size) s.heap σ s.heap [] := ⟨hP, xA_D (D := D) hD, va_S.rf⟩
  have kr : ∀ (v : Int32) (σ : St) (H : Heap) (locs : List Loc) (ls : Array Slot) (pc : Nat), xW D KA layR stR ad ids (xA ad ids s.heap.size) s.heap σ H locs → post v σ → decode cX12_over pc = .ok (.ireturn, 1) → W p l e rmX12_over s m args below meth c H locs 0 0 (MQ below (va_Qi post (xOut D KA layR stR ad ids) (xA ad ids s.heap.size)) args s 0 0 (xA ad ids s.heap.size)) (F0 m pc ls [.int v]) := fun v σ H locs ls pc hW h hd => x_iret hx hb hr hlocks hW h hd
  have hl := lv_entry ([.int a0]) (n := 1) (Nat.le_of_ble_eq_true rfl)
  rw [show entryFrame m args 1 = entryFrame m ([.int a0] : List Value).toArray 1 from by rw [hav]]
  rw [lg_entry_eq]
  generalize (lg_sl ([.int a0]) ++ List.replicate (1 - (lg_sl ([.int a0])).length) Slot.unset).toArray = ls at hl ⊢
  have hl : lv_has ls 1 [(0, .int a0)] := hl
  show W p l e rmX12_over s m args below meth c s.heap [] 0 0 _ _
  generalize MQ below (va_Qi post (xOut D KA layR stR ad ids) (xA ad ids s.heap.size)) args s 0 0 (xA ad ids s.heap.size) = Q at kr ⊢
  have blk27 : ∀ (s0 : Int32) (σ : St) (H : Heap) (locs : List Loc) (ls : Array Slot), xW D KA layR stR ad ids (xA ad ids s.heap.size) s.heap σ H locs → lv_has ls 1 [] → wX12_over_27 post s0 σ → W p l e rmX12_over s m args below meth c H locs 0 0 Q (F0 m 27 ls [.int s0]) := by
    intro   s0 σ H locs ls hW hl h
    unfold wX12_over_27 at h
    exact kr _ _ _ _ _ _ hW h dX12_over_27
  have main : ∀ (H : Heap) (locs : List Loc) (ls : Array Slot), xW D KA layR stR ad ids (xA ad ids s.heap.size) s.heap σ H locs → lv_has ls 1 [(0, .int a0)] → W p l e rmX12_over s m args below meth c H locs 0 0 Q (F0 m 0 ls []) := by
    intro H locs ls hW hl
    unfold wX12_over at h
    refine lv_iload_n hx hb dX12_over_0 rfl (lv_at hl 0 rfl) ?_
    refine lv_if_ne (tgt := 8) hx hb dX12_over_1 (by decide) (fun c1001 => ?_) (fun c1001 => ?_)
    · have h := h.1 c1001
      refine lv_iload_n hx hb dX12_over_8 rfl (lv_at hl 0 rfl) ?_
      refine lv_iconst (v := 4) hx hb dX12_over_9 (by decide) ?_
      refine lv_icmp_ne (tgt := 17) hx hb dX12_over_10 (by decide) (fun c1002 => ?_) (fun c1002 => ?_)
      · have h := h.1 c1002
        refine lv_iload_n hx hb dX12_over_17 rfl (lv_at hl 0 rfl) ?_
        refine lv_iconst (v := 5) hx hb dX12_over_18 (by decide) ?_
        refine lv_icmp_ne (tgt := 26) hx hb dX12_over_19 (by decide) (fun c1003 => ?_) (fun c1003 => ?_)
        · have h := h.1 c1003
          refine lv_iconst (v := 0) hx hb dX12_over_26 (by decide) ?_
          exact blk27   (0 : Int32) _ _ _ _ hW (lv_sub hl [] rfl) h
        · have h := h.2 c1003
          refine lv_iconst (v := 1) hx hb dX12_over_22 (by decide) ?_
          refine lv_goto (tgt := 27) hx hb dX12_over_23 (by decide) ?_
          exact blk27   (1 : Int32) _ _ _ _ hW (lv_sub hl [] rfl) h
      · have h := h.2 c1002
        refine lv_iconst (v := 2) hx hb dX12_over_13 (by decide) ?_
        refine lv_goto (tgt := 27) hx hb dX12_over_14 (by decide) ?_
        exact blk27   (2 : Int32) _ _ _ _ hW (lv_sub hl [] rfl) h
    · have h := h.2 c1001
      refine lv_iconst (v := (-1)) hx hb dX12_over_4 (by decide) ?_
      refine lv_goto (tgt := 27) hx hb dX12_over_5 (by decide) ?_
      exact blk27   (-1 : Int32) _ _ _ _ hW (lv_sub hl [] rfl) h
  exact main _ _ _ hW hl
theorem hwX12_runs_0 : (.fieldLink RX12 160 "FortyBeltsModel" "machines" "I" : Cond) ∈ wsX12_runs := (List.mem_cons_of_mem _ (List.mem_append_left _ (List.mem_append_left _ (List.mem_of_getElem? (i := 1) rfl))))
theorem hwX12_runs_1 : (.fieldLink RX12 81 "FortyBeltsModel" "ways" "[I" : Cond) ∈ wsX12_runs := (List.mem_cons_of_mem _ (List.mem_append_left _ (List.mem_append_left _ (List.mem_of_getElem? (i := 2) rfl))))
theorem hwX12_runs_2 : (.fieldLink RX12 29 "FortyBeltsModel" "shaftOf" "[I" : Cond) ∈ wsX12_runs := (List.mem_cons_of_mem _ (List.mem_append_left _ (List.mem_append_left _ (List.mem_of_getElem? (i := 3) rfl))))
theorem hwX12_runs_3 : (.constantLong RX12 186 (2) : Cond) ∈ wsX12_runs := (List.mem_cons_of_mem _ (List.mem_append_left _ (List.mem_append_left _ (List.mem_of_getElem? (i := 0) rfl))))
theorem hcX12_runs_X12 : ∀ w ∈ wsX120, w ∈ wsX12_runs := fun _ h => (List.mem_cons_of_mem _ (List.mem_append_right _ h))
set_option maxHeartbeats 4000000 in
set_option maxRecDepth 100000 in
theorem J_X12_runs {D : va_G} {KA : Nat → ClassId} {zs : ZS} {ad : Nat → Nat} {ids : List Nat} {sz : Nat} (l : Launch) (hI : ∀ c, c < 35 → c ∈ ids) {a1 : Int32}  {σ : St} {post : Int32 → St → Prop} (h : wX12_runs  a1 σ post) : Met l yX12_runs wsX12_runs rmX12_runs (va_Pc [.ref (ad 0), .int a1] (xIn D KA zs layR stR ad ids sz σ)) (va_Qi post (xOut D KA layR stR ad ids) (xA ad ids sz)) 0 0 (xA ad ids sz) := by
  refine Met.ofW (cc := cX12_runs) (maxL := 4) (ret := (some .int)) (by decide) rfl ?_
  intro p e s m args below meth c s₁ B hml hv
  obtain ⟨hav, hsz, hK, hZ, hP, hD⟩ := hv
  have hx := B.exec
  have hb := B.bytes
  have hr := B.returns
  have hts := atoms_spec (ws := wsX12_runs) B.pre
  have hown : s.vm.findClass RX12 = some m.cls := findClass_of_methodNamed B.named
  have hlocks := B.notSynchronized
  subst hsz
  have hA : ∀ q : Nat, s.heap.size ≤ q → xA ad ids s.heap.size q := fun q h => Or.inr h
  have hW : xW D KA layR stR ad ids (xA ad ids s.heap.size) s.heap σ s.heap [] := ⟨hP, xA_D (D := D) hD, va_S.rf⟩
  have kr : ∀ (v : Int32) (σ : St) (H : Heap) (locs : List Loc) (ls : Array Slot) (pc : Nat), xW D KA layR stR ad ids (xA ad ids s.heap.size) s.heap σ H locs → post v σ → decode cX12_runs pc = .ok (.ireturn, 1) → W p l e rmX12_runs s m args below meth c H locs 0 0 (MQ below (va_Qi post (xOut D KA layR stR ad ids) (xA ad ids s.heap.size)) args s 0 0 (xA ad ids s.heap.size)) (F0 m pc ls [.int v]) := fun v σ H locs ls pc hW h hd => x_iret hx hb hr hlocks hW h hd
  have hl := lv_entry ([.ref (ad 0), .int a1]) (n := 4) (Nat.le_of_ble_eq_true rfl)
  rw [show entryFrame m args 4 = entryFrame m ([.ref (ad 0), .int a1] : List Value).toArray 4 from by rw [hav]]
  rw [lg_entry_eq]
  generalize (lg_sl ([.ref (ad 0), .int a1]) ++ List.replicate (4 - (lg_sl ([.ref (ad 0), .int a1])).length) Slot.unset).toArray = ls at hl ⊢
  have hl : lv_has ls 4 [(0, .ref (ad 0)), (1, .int a1)] := hl
  show W p l e rmX12_runs s m args below meth c s.heap [] 0 0 _ _
  generalize MQ below (va_Qi post (xOut D KA layR stR ad ids) (xA ad ids s.heap.size)) args s 0 0 (xA ad ids s.heap.size) = Q at kr ⊢
  have blk89 : ∀ (s0 : Int32) (σ : St) (H : Heap) (locs : List Loc) (ls : Array Slot), xW D KA layR stR ad ids (xA ad ids s.heap.size) s.heap σ H locs → lv_has ls 4 [] → wX12_runs_89 post s0 σ → W p l e rmX12_runs s m args below meth c H locs 0 0 Q (F0 m 89 ls [.int s0]) := by
    intro   s0 σ H locs ls hW hl h
    unfold wX12_runs_89 at h
    exact kr _ _ _ _ _ _ hW h dX12_runs_89
  have blk68 : ∀ (x1 : Int32) (k23 : Int32 → Int32 → St → Prop) (hk23 : ∀ (x2 : Int32) (x3 : Int32) (σ : St) (H : Heap) (locs : List Loc) (ls : Array Slot), xW D KA layR stR ad ids (xA ad ids s.heap.size) s.heap σ H locs → lv_has ls 4 [(0, .ref (ad 0)), (1, .int x1), (2, .int x2), (3, .int x3)] → k23 x2 x3 σ → W p l e rmX12_runs s m args below meth c H locs 0 0 Q (F0 m 23 ls [])) (x3 : Int32) (s0 : Int32) (s1 : Int32) (σ : St) (H : Heap) (locs : List Loc) (ls : Array Slot), xW D KA layR stR ad ids (xA ad ids s.heap.size) s.heap σ H locs → lv_has ls 4 [(0, .ref (ad 0)), (1, .int x1), (3, .int x3)] → wX12_runs_68 k23 post x1 x3 s0 s1 σ → W p l e rmX12_runs s m args below meth c H locs 0 0 Q (F0 m 68 ls [.int s1, .int s0]) := by
    intro x1 k23 hk23 x3 s0 s1 σ H locs ls hW hl h
    unfold wX12_runs_68 at h
    refine lv_ior hx hb dX12_runs_68 ?_
    refine lv_topi (fun v1 hv1 => ?_)
    have h := h v1 hv1
    refine lv_istore_n (lv' := [(2, .int v1), (0, .ref (ad 0)), (1, .int x1), (3, .int x3)]) hx hb dX12_runs_69 rfl hl (by decide) rfl (fun ls hl => ?_)
    obtain ⟨v2, hv2⟩ : ∃ y : Int32, y = x3 + (1 : Int32) := ⟨_, rfl⟩
    have h := h v2 hv2
    refine lv_iinc (v := v2) (lv' := [(3, .int v2), (2, .int v1), (0, .ref (ad 0)), (1, .int x1)]) hx hb dX12_runs_70 hl (k := 3) rfl (by rw [hv2]; rfl) (by decide) rfl (fun ls hl => ?_)
    refine lv_goto (tgt := 23) hx hb dX12_runs_73 (by decide) ?_
    exact hk23 v1 v2 _ _ _ _ hW (lv_sub hl [2, 3, 1, 0] rfl) h
  have blk67 : ∀ (x1 : Int32) (k23 : Int32 → Int32 → St → Prop) (hk23 : ∀ (x2 : Int32) (x3 : Int32) (σ : St) (H : Heap) (locs : List Loc) (ls : Array Slot), xW D KA layR stR ad ids (xA ad ids s.heap.size) s.heap σ H locs → lv_has ls 4 [(0, .ref (ad 0)), (1, .int x1), (2, .int x2), (3, .int x3)] → k23 x2 x3 σ → W p l e rmX12_runs s m args below meth c H locs 0 0 Q (F0 m 23 ls [])) (x3 : Int32) (s0 : Int32) (σ : St) (H : Heap) (locs : List Loc) (ls : Array Slot), xW D KA layR stR ad ids (xA ad ids s.heap.size) s.heap σ H locs → lv_has ls 4 [(0, .ref (ad 0)), (1, .int x1), (3, .int x3)] → wX12_runs_67 k23 post x1 x3 s0 σ → W p l e rmX12_runs s m args below meth c H locs 0 0 Q (F0 m 67 ls [.int s0]) := by
    intro x1 k23 hk23 x3 s0 σ H locs ls hW hl h
    unfold wX12_runs_67 at h
    refine lv_iconst (v := 0) hx hb dX12_runs_67 (by decide) ?_
    exact blk68 x1 k23 hk23 x3 s0 (0 : Int32) _ _ _ _ hW (lv_sub hl [0, 1, 2] rfl) h
  have blk61 : ∀ (x1 : Int32) (k23 : Int32 → Int32 → St → Prop) (hk23 : ∀ (x2 : Int32) (x3 : Int32) (σ : St) (H : Heap) (locs : List Loc) (ls : Array Slot), xW D KA layR stR ad ids (xA ad ids s.heap.size) s.heap σ H locs → lv_has ls 4 [(0, .ref (ad 0)), (1, .int x1), (2, .int x2), (3, .int x3)] → k23 x2 x3 σ → W p l e rmX12_runs s m args below meth c H locs 0 0 Q (F0 m 23 ls [])) (x3 : Int32) (s0 : Int32) (σ : St) (H : Heap) (locs : List Loc) (ls : Array Slot), xW D KA layR stR ad ids (xA ad ids s.heap.size) s.heap σ H locs → lv_has ls 4 [(0, .ref (ad 0)), (1, .int x1), (3, .int x3)] → wX12_runs_61 k23 post x1 x3 s0 σ → W p l e rmX12_runs s m args below meth c H locs 0 0 Q (F0 m 61 ls [.int s0]) := by
    intro x1 k23 hk23 x3 s0 σ H locs ls hW hl h
    unfold wX12_runs_61 at h
    refine lv_iconst (v := 1) hx hb dX12_runs_61 (by decide) ?_
    refine lv_iload_n hx hb dX12_runs_62 rfl (lv_at hl 2 rfl) ?_
    refine lv_ishl hx hb dX12_runs_63 ?_
    refine lv_goto (tgt := 68) hx hb dX12_runs_64 (by decide) ?_
    exact blk68 x1 k23 hk23 x3 s0 ((1 : Int32) <<< (x3 &&& 31)) _ _ _ _ hW (lv_sub hl [0, 1, 2] rfl) h
  have blk23 : ∀ (x1 : Int32) (n : Nat) (x2 : Int32) (x3 : Int32) (σ : St) (H : Heap) (locs : List Loc) (ls : Array Slot), xW D KA layR stR ad ids (xA ad ids s.heap.size) s.heap σ H locs → lv_has ls 4 [(0, .ref (ad 0)), (1, .int x1), (2, .int x2), (3, .int x3)] → wX12_runs_23 post x1 n x2 x3 σ → W p l e rmX12_runs s m args below meth c H locs 0 0 Q (F0 m 23 ls []) := by
    intro   x1 n
    induction n with
    | zero => intro x2 x3 σ H locs ls hW hl h; exact (h : False).elim
    | succ n ih =>
      intro x2 x3 σ H locs ls hW hl h
      have hk23 : ∀ (x2 : Int32) (x3 : Int32) (σ : St) (H : Heap) (locs : List Loc) (ls : Array Slot), xW D KA layR stR ad ids (xA ad ids s.heap.size) s.heap σ H locs → lv_has ls 4 [(0, .ref (ad 0)), (1, .int x1), (2, .int x2), (3, .int x3)] → (wX12_runs_23 post x1 n) x2 x3 σ → W p l e rmX12_runs s m args below meth c H locs 0 0 Q (F0 m 23 ls []) := fun x2 x3 σ H locs ls hW hl h => ih x2 x3 σ H locs ls hW hl h
      rw [wX12_runs_23_s] at h
      try dsimp only at h
      generalize wX12_runs_23 post x1 n = k23 at h hk23
      refine lv_iload_n hx hb dX12_runs_23 rfl (lv_at hl 3 rfl) ?_
      refine lv_aload_n hx hb dX12_runs_24 rfl (lv_at hl 0 rfl) ?_
      refine xgX12_18 hx hb hts hown hK hW 0 hcX12_runs_X12 (hI 0 (by decide)) lR_0 (hts _ hwX12_runs_0) dX12_runs_25 ?_
      refine lv_icmp_ge (tgt := 76) hx hb dX12_runs_28 (by decide) (fun c3 => ?_) (fun c3 => ?_)
      · have h := h.1 c3
        refine lv_iload_n hx hb dX12_runs_76 rfl (lv_at hl 1 rfl) ?_
        refine lv_iconst (v := 2) hx hb dX12_runs_77 (by decide) ?_
        refine lv_icmp_ne (tgt := 88) hx hb dX12_runs_78 (by decide) (fun c4 => ?_) (fun c4 => ?_)
        · have h := h.1 c4
          refine lv_iload_n hx hb dX12_runs_88 rfl (lv_at hl 2 rfl) ?_
          exact blk89   x2 _ _ _ _ hW (lv_sub hl [] rfl) h
        · have h := h.2 c4
          refine lv_aload_n hx hb dX12_runs_81 rfl (lv_at hl 0 rfl) ?_
          refine x_calli (va_runV (As := []) (rest := []) ⟨hx, hb, hml, hown, hts⟩ (J_X12_allLoaded l hI h) (cwV 0 hts gX12_runs_X12_allLoaded rfl rfl rfl hdV_X12_allLoaded ⟨Nat.le_of_ble_eq_true rfl, Nat.le_of_ble_eq_true rfl⟩) (x_preV (ci := 12) hK hZ hA hW (hI 0 (by decide)) lR_0 rfl) rfl rfl hl.1 rfl (lv_room (Nat.le_of_ble_eq_true rfl)) dX12_runs_82 ⟨Nat.zero_le _, Nat.zero_le _⟩) hW hA (fun r6 σ5 H locs h hW => ?_)
          try dsimp only at h
          refine lv_goto (tgt := 89) hx hb dX12_runs_85 (by decide) ?_
          exact blk89   r6 _ _ _ _ hW (lv_sub hl [] rfl) h
      · have h := h.2 c3
        refine lv_iload_n hx hb dX12_runs_31 rfl (lv_at hl 2 rfl) ?_
        refine lv_iload_n hx hb dX12_runs_32 rfl (lv_at hl 1 rfl) ?_
        refine lv_if_ne (tgt := 47) hx hb dX12_runs_33 (by decide) (fun c7 => ?_) (fun c7 => ?_)
        · have h := h.1 c7
          refine lv_aload_n hx hb dX12_runs_47 rfl (lv_at hl 0 rfl) ?_
          refine xgX12_33r hx hb hts hown hK hW 0 hcX12_runs_X12 (hI 0 (by decide)) lR_0 (hts _ hwX12_runs_1) (sR_0_33 _) dX12_runs_48 ?_
          refine lv_aload_n hx hb dX12_runs_51 rfl (lv_at hl 0 rfl) ?_
          refine xgX12_12r hx hb hts hown hK hW 0 hcX12_runs_X12 (hI 0 (by decide)) lR_0 (hts _ hwX12_runs_2) (sR_0_12 _) dX12_runs_52 ?_
          refine lv_iload_n hx hb dX12_runs_55 rfl (lv_at hl 3 rfl) ?_
          obtain ⟨hi8, h⟩ := h
          refine x_iald hx hb hK hW 6 (hI 6 (by decide)) lR_6 hi8 dX12_runs_56 ?_
          obtain ⟨hi9, h⟩ := h
          refine x_iald hx hb hK hW 22 (hI 22 (by decide)) lR_22 hi9 dX12_runs_57 ?_
          refine lv_if_eq (tgt := 67) hx hb dX12_runs_58 (by decide) (fun c10 => ?_) (fun c10 => ?_)
          · have h := h.1 c10
            exact blk67 x1 k23 hk23 x3 x2 _ _ _ _ hW (lv_sub hl [0, 1, 3] rfl) h
          · have h := h.2 c10
            exact blk61 x1 k23 hk23 x3 x2 _ _ _ _ hW (lv_sub hl [0, 1, 3] rfl) h
        · have h := h.2 c7
          refine lv_aload_n hx hb dX12_runs_36 rfl (lv_at hl 0 rfl) ?_
          refine lv_iload_n hx hb dX12_runs_37 rfl (lv_at hl 3 rfl) ?_
          refine x_calli (va_runV (As := [.int x3]) (rest := [.int x2]) ⟨hx, hb, hml, hown, hts⟩ (J_X12_runsWell l hI h) (cwV 1 hts gX12_runs_X12_runsWell rfl rfl rfl hdV_X12_runsWell ⟨Nat.le_of_ble_eq_true rfl, Nat.le_of_ble_eq_true rfl⟩) (x_preV (ci := 12) hK hZ hA hW (hI 0 (by decide)) lR_0 rfl) rfl rfl hl.1 rfl (lv_room (Nat.le_of_ble_eq_true rfl)) dX12_runs_38 ⟨Nat.zero_le _, Nat.zero_le _⟩) hW hA (fun r12 σ11 H locs h hW => ?_)
          try dsimp only at h
          refine lv_if_eq (tgt := 67) hx hb dX12_runs_41 (by decide) (fun c13 => ?_) (fun c13 => ?_)
          · have h := h.1 c13
            exact blk67 x1 k23 hk23 x3 x2 _ _ _ _ hW (lv_sub hl [0, 1, 3] rfl) h
          · have h := h.2 c13
            refine lv_goto (tgt := 61) hx hb dX12_runs_44 (by decide) ?_
            exact blk61 x1 k23 hk23 x3 x2 _ _ _ _ hW (lv_sub hl [0, 1, 3] rfl) h
  have main : ∀ (H : Heap) (locs : List Loc) (ls : Array Slot), xW D KA layR stR ad ids (xA ad ids s.heap.size) s.heap σ H locs → lv_has ls 4 [(0, .ref (ad 0)), (1, .int a1)] → W p l e rmX12_runs s m args below meth c H locs 0 0 Q (F0 m 0 ls []) := by
    intro H locs ls hW hl
    unfold wX12_runs at h
    refine lv_iload_n hx hb dX12_runs_0 rfl (lv_at hl 1 rfl) ?_
    refine lv_i2l hx hb dX12_runs_1 rfl ?_
    refine lv_lconst (v := 0) hx hb dX12_runs_2 (by decide) ?_
    refine lv_ldc2 hx hb hown (hts _ hwX12_runs_3) dX12_runs_3 ?_
    refine x_calli (va_runS (As := [.long (a1.toInt64), .long (0 : Int64), .long (2 : Int64)]) (rest := []) ⟨hx, hb, hml, hown, hts⟩ (J_X12_in l hI h) (va_cwS 3 hts gX12_runs_X12_in rfl rfl rfl hdS_X12_in ⟨Nat.le_of_ble_eq_true rfl, Nat.le_of_ble_eq_true rfl⟩) (x_preS hK hZ hA hW) rfl rfl hl.1 rfl (lv_room (Nat.le_of_ble_eq_true rfl)) dX12_runs_6 ⟨Nat.zero_le _, Nat.zero_le _⟩) hW hA (fun r1002 σ1001 H locs h hW => ?_)
    try dsimp only at h
    refine lv_if_ne (tgt := 15) hx hb dX12_runs_9 (by decide) (fun c1003 => ?_) (fun c1003 => ?_)
    · have h := h.1 c1003
      refine lv_aload_n hx hb dX12_runs_15 rfl (lv_at hl 0 rfl) ?_
      refine x_callv (va_runV (As := []) (rest := []) ⟨hx, hb, hml, hown, hts⟩ (J_X12_lays l hI h) (cwV 0 hts gX12_runs_X12_lays rfl rfl rfl hdV_X12_lays ⟨Nat.le_of_ble_eq_true rfl, Nat.le_of_ble_eq_true rfl⟩) (x_preV (ci := 12) hK hZ hA hW (hI 0 (by decide)) lR_0 rfl) rfl rfl hl.1 rfl (lv_room (Nat.le_of_ble_eq_true rfl)) dX12_runs_16 ⟨Nat.zero_le _, Nat.zero_le _⟩) hW hA (fun σ1004 H locs h hW => ?_)
      try dsimp only at h
      refine lv_iconst (v := 0) hx hb dX12_runs_19 (by decide) ?_
      refine lv_istore_n (lv' := [(2, .int (0 : Int32)), (0, .ref (ad 0)), (1, .int a1)]) hx hb dX12_runs_20 rfl hl (by decide) rfl (fun ls hl => ?_)
      refine lv_iconst (v := 0) hx hb dX12_runs_21 (by decide) ?_
      refine lv_istore_n (lv' := [(3, .int (0 : Int32)), (2, .int (0 : Int32)), (0, .ref (ad 0)), (1, .int a1)]) hx hb dX12_runs_22 rfl hl (by decide) rfl (fun ls hl => ?_)
      obtain ⟨n, h⟩ := h
      exact blk23   a1 n (0 : Int32) (0 : Int32) _ _ _ _ hW (lv_sub hl [2, 3, 1, 0] rfl) h
    · have h := h.2 c1003
      refine lv_bipush (v := (-2)) hx hb dX12_runs_12 (by decide) ?_
      exact kr _ _ _ _ _ _ hW h dX12_runs_14
  exact main _ _ _ hW hl
theorem hwX12_save_0 : (.fieldLink RX12 160 "FortyBeltsModel" "machines" "I" : Cond) ∈ wsX12_save := (List.mem_cons_of_mem _ (List.mem_append_left _ (List.mem_append_left _ (List.mem_of_getElem? (i := 2) rfl))))
theorem hwX12_save_1 : (.fieldLink RX12 44 "FortyBeltsModel" "isRun" "[I" : Cond) ∈ wsX12_save := (List.mem_cons_of_mem _ (List.mem_append_left _ (List.mem_append_left _ (List.mem_of_getElem? (i := 3) rfl))))
theorem hwX12_save_2 : (.fieldLink RX12 29 "FortyBeltsModel" "shaftOf" "[I" : Cond) ∈ wsX12_save := (List.mem_cons_of_mem _ (List.mem_append_left _ (List.mem_append_left _ (List.mem_of_getElem? (i := 4) rfl))))
theorem hwX12_save_3 : (.fieldLink RX12 153 "FortyBeltsModel" "shafts" "I" : Cond) ∈ wsX12_save := (List.mem_cons_of_mem _ (List.mem_append_left _ (List.mem_append_left _ (List.mem_of_getElem? (i := 0) rfl))))
theorem hwX12_save_4 : (.fieldLink RX12 81 "FortyBeltsModel" "ways" "[I" : Cond) ∈ wsX12_save := (List.mem_cons_of_mem _ (List.mem_append_left _ (List.mem_append_left _ (List.mem_of_getElem? (i := 1) rfl))))
theorem hcX12_save_X12 : ∀ w ∈ wsX120, w ∈ wsX12_save := fun _ h => (List.mem_cons_of_mem _ (List.mem_append_right _ h))
set_option maxHeartbeats 4000000 in
set_option maxRecDepth 100000 in
theorem J_X12_save {D : va_G} {KA : Nat → ClassId} {zs : ZS} {ad : Nat → Nat} {ids : List Nat} {sz : Nat} (l : Launch) (hI : ∀ c, c < 35 → c ∈ ids)   {σ : St} {post : Int32 → St → Prop} (h : wX12_save   σ post) : Met l yX12_save wsX12_save rmX12_save (va_Pc [.ref (ad 0)] (xIn D KA zs layR stR ad ids sz σ)) (va_Qi post (xOut D KA layR stR ad ids) (xA ad ids sz)) 0 0 (xA ad ids sz) := by
  refine Met.ofW (cc := cX12_save) (maxL := 6) (ret := (some .int)) (by decide) rfl ?_
  intro p e s m args below meth c s₁ B hml hv
  obtain ⟨hav, hsz, hK, hZ, hP, hD⟩ := hv
  have hx := B.exec
  have hb := B.bytes
  have hr := B.returns
  have hts := atoms_spec (ws := wsX12_save) B.pre
  have hown : s.vm.findClass RX12 = some m.cls := findClass_of_methodNamed B.named
  have hlocks := B.notSynchronized
  subst hsz
  have hA : ∀ q : Nat, s.heap.size ≤ q → xA ad ids s.heap.size q := fun q h => Or.inr h
  have hW : xW D KA layR stR ad ids (xA ad ids s.heap.size) s.heap σ s.heap [] := ⟨hP, xA_D (D := D) hD, va_S.rf⟩
  have kr : ∀ (v : Int32) (σ : St) (H : Heap) (locs : List Loc) (ls : Array Slot) (pc : Nat), xW D KA layR stR ad ids (xA ad ids s.heap.size) s.heap σ H locs → post v σ → decode cX12_save pc = .ok (.ireturn, 1) → W p l e rmX12_save s m args below meth c H locs 0 0 (MQ below (va_Qi post (xOut D KA layR stR ad ids) (xA ad ids s.heap.size)) args s 0 0 (xA ad ids s.heap.size)) (F0 m pc ls [.int v]) := fun v σ H locs ls pc hW h hd => x_iret hx hb hr hlocks hW h hd
  have hl := lv_entry ([.ref (ad 0)]) (n := 6) (Nat.le_of_ble_eq_true rfl)
  rw [show entryFrame m args 6 = entryFrame m ([.ref (ad 0)] : List Value).toArray 6 from by rw [hav]]
  rw [lg_entry_eq]
  generalize (lg_sl ([.ref (ad 0)]) ++ List.replicate (6 - (lg_sl ([.ref (ad 0)])).length) Slot.unset).toArray = ls at hl ⊢
  have hl : lv_has ls 6 [(0, .ref (ad 0))] := hl
  show W p l e rmX12_save s m args below meth c s.heap [] 0 0 _ _
  generalize MQ below (va_Qi post (xOut D KA layR stR ad ids) (xA ad ids s.heap.size)) args s 0 0 (xA ad ids s.heap.size) = Q at kr ⊢
  have blk105 : ∀ (k8 : Int32 → Int32 → St → Prop) (hk8 : ∀ (x1 : Int32) (x2 : Int32) (σ : St) (H : Heap) (locs : List Loc) (ls : Array Slot), xW D KA layR stR ad ids (xA ad ids s.heap.size) s.heap σ H locs → lv_has ls 6 [(0, .ref (ad 0)), (1, .int x1), (2, .int x2)] → k8 x1 x2 σ → W p l e rmX12_save s m args below meth c H locs 0 0 Q (F0 m 8 ls [])) (x2 : Int32) (s0 : Int32) (s1 : Int32) (σ : St) (H : Heap) (locs : List Loc) (ls : Array Slot), xW D KA layR stR ad ids (xA ad ids s.heap.size) s.heap σ H locs → lv_has ls 6 [(0, .ref (ad 0)), (2, .int x2)] → wX12_save_105 k8 post x2 s0 s1 σ → W p l e rmX12_save s m args below meth c H locs 0 0 Q (F0 m 105 ls [.int s1, .int s0]) := by
    intro  k8 hk8 x2 s0 s1 σ H locs ls hW hl h
    unfold wX12_save_105 at h
    refine lv_ior hx hb dX12_save_105 ?_
    refine lv_topi (fun v1 hv1 => ?_)
    have h := h v1 hv1
    refine lv_istore_n (lv' := [(1, .int v1), (0, .ref (ad 0)), (2, .int x2)]) hx hb dX12_save_106 rfl hl (by decide) rfl (fun ls hl => ?_)
    obtain ⟨v2, hv2⟩ : ∃ y : Int32, y = x2 + (1 : Int32) := ⟨_, rfl⟩
    have h := h v2 hv2
    refine lv_iinc (v := v2) (lv' := [(2, .int v2), (1, .int v1), (0, .ref (ad 0))]) hx hb dX12_save_107 hl (k := 2) rfl (by rw [hv2]; rfl) (by decide) rfl (fun ls hl => ?_)
    refine lv_goto (tgt := 8) hx hb dX12_save_110 (by decide) ?_
    exact hk8 v1 v2 _ _ _ _ hW (lv_sub hl [2, 1, 0] rfl) h
  have blk84 : ∀ (x1 : Int32) (x2 : Int32) (x3 : Int32) (k8 : Int32 → Int32 → St → Prop) (hk8 : ∀ (x1 : Int32) (x2 : Int32) (σ : St) (H : Heap) (locs : List Loc) (ls : Array Slot), xW D KA layR stR ad ids (xA ad ids s.heap.size) s.heap σ H locs → lv_has ls 6 [(0, .ref (ad 0)), (1, .int x1), (2, .int x2)] → k8 x1 x2 σ → W p l e rmX12_save s m args below meth c H locs 0 0 Q (F0 m 8 ls [])) (k41 : Int32 → Int32 → St → Prop) (hk41 : ∀ (x4 : Int32) (x5 : Int32) (σ : St) (H : Heap) (locs : List Loc) (ls : Array Slot), xW D KA layR stR ad ids (xA ad ids s.heap.size) s.heap σ H locs → lv_has ls 6 [(0, .ref (ad 0)), (1, .int x1), (2, .int x2), (3, .int x3), (4, .int x4), (5, .int x5)] → k41 x4 x5 σ → W p l e rmX12_save s m args below meth c H locs 0 0 Q (F0 m 41 ls [])) (x5 : Int32) (s0 : Int32) (σ : St) (H : Heap) (locs : List Loc) (ls : Array Slot), xW D KA layR stR ad ids (xA ad ids s.heap.size) s.heap σ H locs → lv_has ls 6 [(0, .ref (ad 0)), (1, .int x1), (2, .int x2), (3, .int x3), (5, .int x5)] → wX12_save_84 k8 k41 post x1 x2 x3 x5 s0 σ → W p l e rmX12_save s m args below meth c H locs 0 0 Q (F0 m 84 ls [.int s0]) := by
    intro x1 x2 x3 k8 hk8 k41 hk41 x5 s0 σ H locs ls hW hl h
    unfold wX12_save_84 at h
    refine lv_istore (lv' := [(4, .int s0), (0, .ref (ad 0)), (1, .int x1), (2, .int x2), (3, .int x3), (5, .int x5)]) hx hb dX12_save_84 hl (by decide) rfl (fun ls hl => ?_)
    obtain ⟨v3, hv3⟩ : ∃ y : Int32, y = x5 + (1 : Int32) := ⟨_, rfl⟩
    have h := h v3 hv3
    refine lv_iinc (v := v3) (lv' := [(5, .int v3), (4, .int s0), (0, .ref (ad 0)), (1, .int x1), (2, .int x2), (3, .int x3)]) hx hb dX12_save_86 hl (k := 5) rfl (by rw [hv3]; rfl) (by decide) rfl (fun ls hl => ?_)
    refine lv_goto (tgt := 41) hx hb dX12_save_89 (by decide) ?_
    exact hk41 s0 v3 _ _ _ _ hW (lv_sub hl [2, 3, 4, 5, 1, 0] rfl) h
  have blk83 : ∀ (x1 : Int32) (x2 : Int32) (x3 : Int32) (k8 : Int32 → Int32 → St → Prop) (hk8 : ∀ (x1 : Int32) (x2 : Int32) (σ : St) (H : Heap) (locs : List Loc) (ls : Array Slot), xW D KA layR stR ad ids (xA ad ids s.heap.size) s.heap σ H locs → lv_has ls 6 [(0, .ref (ad 0)), (1, .int x1), (2, .int x2)] → k8 x1 x2 σ → W p l e rmX12_save s m args below meth c H locs 0 0 Q (F0 m 8 ls [])) (k41 : Int32 → Int32 → St → Prop) (hk41 : ∀ (x4 : Int32) (x5 : Int32) (σ : St) (H : Heap) (locs : List Loc) (ls : Array Slot), xW D KA layR stR ad ids (xA ad ids s.heap.size) s.heap σ H locs → lv_has ls 6 [(0, .ref (ad 0)), (1, .int x1), (2, .int x2), (3, .int x3), (4, .int x4), (5, .int x5)] → k41 x4 x5 σ → W p l e rmX12_save s m args below meth c H locs 0 0 Q (F0 m 41 ls [])) (x5 : Int32) (σ : St) (H : Heap) (locs : List Loc) (ls : Array Slot), xW D KA layR stR ad ids (xA ad ids s.heap.size) s.heap σ H locs → lv_has ls 6 [(0, .ref (ad 0)), (1, .int x1), (2, .int x2), (3, .int x3), (5, .int x5)] → wX12_save_83 k8 k41 post x1 x2 x3 x5 σ → W p l e rmX12_save s m args below meth c H locs 0 0 Q (F0 m 83 ls []) := by
    intro x1 x2 x3 k8 hk8 k41 hk41 x5 σ H locs ls hW hl h
    unfold wX12_save_83 at h
    refine lv_iconst (v := 0) hx hb dX12_save_83 (by decide) ?_
    exact blk84 x1 x2 x3 k8 hk8 k41 hk41 x5 (0 : Int32) _ _ _ _ hW (lv_sub hl [0, 1, 2, 3, 4] rfl) h
  have blk79 : ∀ (x1 : Int32) (x2 : Int32) (x3 : Int32) (k8 : Int32 → Int32 → St → Prop) (hk8 : ∀ (x1 : Int32) (x2 : Int32) (σ : St) (H : Heap) (locs : List Loc) (ls : Array Slot), xW D KA layR stR ad ids (xA ad ids s.heap.size) s.heap σ H locs → lv_has ls 6 [(0, .ref (ad 0)), (1, .int x1), (2, .int x2)] → k8 x1 x2 σ → W p l e rmX12_save s m args below meth c H locs 0 0 Q (F0 m 8 ls [])) (k41 : Int32 → Int32 → St → Prop) (hk41 : ∀ (x4 : Int32) (x5 : Int32) (σ : St) (H : Heap) (locs : List Loc) (ls : Array Slot), xW D KA layR stR ad ids (xA ad ids s.heap.size) s.heap σ H locs → lv_has ls 6 [(0, .ref (ad 0)), (1, .int x1), (2, .int x2), (3, .int x3), (4, .int x4), (5, .int x5)] → k41 x4 x5 σ → W p l e rmX12_save s m args below meth c H locs 0 0 Q (F0 m 41 ls [])) (x5 : Int32) (σ : St) (H : Heap) (locs : List Loc) (ls : Array Slot), xW D KA layR stR ad ids (xA ad ids s.heap.size) s.heap σ H locs → lv_has ls 6 [(0, .ref (ad 0)), (1, .int x1), (2, .int x2), (3, .int x3), (5, .int x5)] → wX12_save_79 k8 k41 post x1 x2 x3 x5 σ → W p l e rmX12_save s m args below meth c H locs 0 0 Q (F0 m 79 ls []) := by
    intro x1 x2 x3 k8 hk8 k41 hk41 x5 σ H locs ls hW hl h
    unfold wX12_save_79 at h
    refine lv_iconst (v := 1) hx hb dX12_save_79 (by decide) ?_
    refine lv_goto (tgt := 84) hx hb dX12_save_80 (by decide) ?_
    exact blk84 x1 x2 x3 k8 hk8 k41 hk41 x5 (1 : Int32) _ _ _ _ hW (lv_sub hl [0, 1, 2, 3, 4] rfl) h
  have blk41 : ∀ (k8 : Int32 → Int32 → St → Prop) (hk8 : ∀ (x1 : Int32) (x2 : Int32) (σ : St) (H : Heap) (locs : List Loc) (ls : Array Slot), xW D KA layR stR ad ids (xA ad ids s.heap.size) s.heap σ H locs → lv_has ls 6 [(0, .ref (ad 0)), (1, .int x1), (2, .int x2)] → k8 x1 x2 σ → W p l e rmX12_save s m args below meth c H locs 0 0 Q (F0 m 8 ls [])) (x1 : Int32) (x2 : Int32) (x3 : Int32) (n : Nat) (x4 : Int32) (x5 : Int32) (σ : St) (H : Heap) (locs : List Loc) (ls : Array Slot), xW D KA layR stR ad ids (xA ad ids s.heap.size) s.heap σ H locs → lv_has ls 6 [(0, .ref (ad 0)), (1, .int x1), (2, .int x2), (3, .int x3), (4, .int x4), (5, .int x5)] → wX12_save_41 k8 post x1 x2 x3 n x4 x5 σ → W p l e rmX12_save s m args below meth c H locs 0 0 Q (F0 m 41 ls []) := by
    intro  k8 hk8 x1 x2 x3 n
    induction n with
    | zero => intro x4 x5 σ H locs ls hW hl h; exact (h : False).elim
    | succ n ih =>
      intro x4 x5 σ H locs ls hW hl h
      have hk41 : ∀ (x4 : Int32) (x5 : Int32) (σ : St) (H : Heap) (locs : List Loc) (ls : Array Slot), xW D KA layR stR ad ids (xA ad ids s.heap.size) s.heap σ H locs → lv_has ls 6 [(0, .ref (ad 0)), (1, .int x1), (2, .int x2), (3, .int x3), (4, .int x4), (5, .int x5)] → (wX12_save_41 k8 post x1 x2 x3 n) x4 x5 σ → W p l e rmX12_save s m args below meth c H locs 0 0 Q (F0 m 41 ls []) := fun x4 x5 σ H locs ls hW hl h => ih x4 x5 σ H locs ls hW hl h
      rw [wX12_save_41_s] at h
      try dsimp only at h
      generalize wX12_save_41 k8 post x1 x2 x3 n = k41 at h hk41
      refine lv_iload hx hb dX12_save_41 (lv_at hl 5 rfl) ?_
      refine lv_aload_n hx hb dX12_save_43 rfl (lv_at hl 0 rfl) ?_
      refine xgX12_18 hx hb hts hown hK hW 0 hcX12_save_X12 (hI 0 (by decide)) lR_0 (hts _ hwX12_save_0) dX12_save_44 ?_
      refine lv_icmp_ge (tgt := 92) hx hb dX12_save_47 (by decide) (fun c4 => ?_) (fun c4 => ?_)
      · have h := h.1 c4
        refine lv_iload_n hx hb dX12_save_92 rfl (lv_at hl 1 rfl) ?_
        refine lv_iload hx hb dX12_save_93 (lv_at hl 4 rfl) ?_
        refine lv_if_eq (tgt := 104) hx hb dX12_save_95 (by decide) (fun c5 => ?_) (fun c5 => ?_)
        · have h := h.1 c5
          refine lv_iconst (v := 0) hx hb dX12_save_104 (by decide) ?_
          exact blk105  k8 hk8 x2 x1 (0 : Int32) _ _ _ _ hW (lv_sub hl [0, 2] rfl) h
        · have h := h.2 c5
          refine lv_iconst (v := 1) hx hb dX12_save_98 (by decide) ?_
          refine lv_iload_n hx hb dX12_save_99 rfl (lv_at hl 2 rfl) ?_
          refine lv_ishl hx hb dX12_save_100 ?_
          refine lv_goto (tgt := 105) hx hb dX12_save_101 (by decide) ?_
          exact blk105  k8 hk8 x2 x1 ((1 : Int32) <<< (x2 &&& 31)) _ _ _ _ hW (lv_sub hl [0, 2] rfl) h
      · have h := h.2 c4
        refine lv_iload hx hb dX12_save_50 (lv_at hl 4 rfl) ?_
        refine lv_if_eq (tgt := 83) hx hb dX12_save_52 (by decide) (fun c6 => ?_) (fun c6 => ?_)
        · have h := h.1 c6
          exact blk83 x1 x2 x3 k8 hk8 k41 hk41 x5 _ _ _ _ hW (lv_sub hl [0, 1, 2, 3, 5] rfl) h
        · have h := h.2 c6
          refine lv_aload_n hx hb dX12_save_55 rfl (lv_at hl 0 rfl) ?_
          refine xgX12_17r hx hb hts hown hK hW 0 hcX12_save_X12 (hI 0 (by decide)) lR_0 (hts _ hwX12_save_1) (sR_0_17 _) dX12_save_56 ?_
          refine lv_iload hx hb dX12_save_59 (lv_at hl 5 rfl) ?_
          obtain ⟨hi7, h⟩ := h
          refine x_iald hx hb hK hW 11 (hI 11 (by decide)) lR_11 hi7 dX12_save_61 ?_
          refine lv_if_eq (tgt := 79) hx hb dX12_save_62 (by decide) (fun c8 => ?_) (fun c8 => ?_)
          · have h := h.1 c8
            exact blk79 x1 x2 x3 k8 hk8 k41 hk41 x5 _ _ _ _ hW (lv_sub hl [0, 1, 2, 3, 5] rfl) h
          · have h := h.2 c8
            refine lv_iload_n hx hb dX12_save_65 rfl (lv_at hl 3 rfl) ?_
            refine lv_aload_n hx hb dX12_save_66 rfl (lv_at hl 0 rfl) ?_
            refine xgX12_12r hx hb hts hown hK hW 0 hcX12_save_X12 (hI 0 (by decide)) lR_0 (hts _ hwX12_save_2) (sR_0_12 _) dX12_save_67 ?_
            refine lv_iload hx hb dX12_save_70 (lv_at hl 5 rfl) ?_
            refine x_iald hx hb hK hW 6 (hI 6 (by decide)) lR_6 hi7 dX12_save_72 ?_
            refine lv_ishr hx hb dX12_save_73 ?_
            refine lv_iconst (v := 1) hx hb dX12_save_74 (by decide) ?_
            refine lv_iand hx hb dX12_save_75 ?_
            refine lv_if_ne (tgt := 83) hx hb dX12_save_76 (by decide) (fun c10 => ?_) (fun c10 => ?_)
            · have h := h.1 c10
              exact blk83 x1 x2 x3 k8 hk8 k41 hk41 x5 _ _ _ _ hW (lv_sub hl [0, 1, 2, 3, 5] rfl) h
            · have h := h.2 c10
              exact blk79 x1 x2 x3 k8 hk8 k41 hk41 x5 _ _ _ _ hW (lv_sub hl [0, 1, 2, 3, 5] rfl) h
  have blk36 : ∀ (k8 : Int32 → Int32 → St → Prop) (hk8 : ∀ (x1 : Int32) (x2 : Int32) (σ : St) (H : Heap) (locs : List Loc) (ls : Array Slot), xW D KA layR stR ad ids (xA ad ids s.heap.size) s.heap σ H locs → lv_has ls 6 [(0, .ref (ad 0)), (1, .int x1), (2, .int x2)] → k8 x1 x2 σ → W p l e rmX12_save s m args below meth c H locs 0 0 Q (F0 m 8 ls [])) (x1 : Int32) (x2 : Int32) (x3 : Int32) (s0 : Int32) (σ : St) (H : Heap) (locs : List Loc) (ls : Array Slot), xW D KA layR stR ad ids (xA ad ids s.heap.size) s.heap σ H locs → lv_has ls 6 [(0, .ref (ad 0)), (1, .int x1), (2, .int x2), (3, .int x3)] → wX12_save_36 k8 post x1 x2 x3 s0 σ → W p l e rmX12_save s m args below meth c H locs 0 0 Q (F0 m 36 ls [.int s0]) := by
    intro  k8 hk8 x1 x2 x3 s0 σ H locs ls hW hl h
    unfold wX12_save_36 at h
    refine lv_istore (lv' := [(4, .int s0), (0, .ref (ad 0)), (1, .int x1), (2, .int x2), (3, .int x3)]) hx hb dX12_save_36 hl (by decide) rfl (fun ls hl => ?_)
    refine lv_iconst (v := 0) hx hb dX12_save_38 (by decide) ?_
    refine lv_istore (lv' := [(5, .int (0 : Int32)), (4, .int s0), (0, .ref (ad 0)), (1, .int x1), (2, .int x2), (3, .int x3)]) hx hb dX12_save_39 hl (by decide) rfl (fun ls hl => ?_)
    obtain ⟨n, h⟩ := h
    exact blk41  k8 hk8 x1 x2 x3 n s0 (0 : Int32) _ _ _ _ hW (lv_sub hl [2, 3, 4, 5, 1, 0] rfl) h
  have blk8 : ∀ (n : Nat) (x1 : Int32) (x2 : Int32) (σ : St) (H : Heap) (locs : List Loc) (ls : Array Slot), xW D KA layR stR ad ids (xA ad ids s.heap.size) s.heap σ H locs → lv_has ls 6 [(0, .ref (ad 0)), (1, .int x1), (2, .int x2)] → wX12_save_8 post  n x1 x2 σ → W p l e rmX12_save s m args below meth c H locs 0 0 Q (F0 m 8 ls []) := by
    intro    n
    induction n with
    | zero => intro x1 x2 σ H locs ls hW hl h; exact (h : False).elim
    | succ n ih =>
      intro x1 x2 σ H locs ls hW hl h
      have hk8 : ∀ (x1 : Int32) (x2 : Int32) (σ : St) (H : Heap) (locs : List Loc) (ls : Array Slot), xW D KA layR stR ad ids (xA ad ids s.heap.size) s.heap σ H locs → lv_has ls 6 [(0, .ref (ad 0)), (1, .int x1), (2, .int x2)] → (wX12_save_8 post  n) x1 x2 σ → W p l e rmX12_save s m args below meth c H locs 0 0 Q (F0 m 8 ls []) := fun x1 x2 σ H locs ls hW hl h => ih x1 x2 σ H locs ls hW hl h
      rw [wX12_save_8_s] at h
      try dsimp only at h
      generalize wX12_save_8 post  n = k8 at h hk8
      refine lv_iload_n hx hb dX12_save_8 rfl (lv_at hl 2 rfl) ?_
      refine lv_aload_n hx hb dX12_save_9 rfl (lv_at hl 0 rfl) ?_
      refine xgX12_9 hx hb hts hown hK hW 0 hcX12_save_X12 (hI 0 (by decide)) lR_0 (hts _ hwX12_save_3) dX12_save_10 ?_
      refine lv_icmp_ge (tgt := 113) hx hb dX12_save_13 (by decide) (fun c12 => ?_) (fun c12 => ?_)
      · have h := h.1 c12
        refine lv_iload_n hx hb dX12_save_113 rfl (lv_at hl 1 rfl) ?_
        exact kr _ _ _ _ _ _ hW h dX12_save_114
      · have h := h.2 c12
        refine lv_aload_n hx hb dX12_save_16 rfl (lv_at hl 0 rfl) ?_
        refine lv_iload_n hx hb dX12_save_17 rfl (lv_at hl 2 rfl) ?_
        refine x_calli (va_runV (As := [.int x2]) (rest := []) ⟨hx, hb, hml, hown, hts⟩ (J_X12_from l hI h) (cwV 1 hts gX12_save_X12_from rfl rfl rfl hdV_X12_from ⟨Nat.le_of_ble_eq_true rfl, Nat.le_of_ble_eq_true rfl⟩) (x_preV (ci := 12) hK hZ hA hW (hI 0 (by decide)) lR_0 rfl) rfl rfl hl.1 rfl (lv_room (Nat.le_of_ble_eq_true rfl)) dX12_save_18 ⟨Nat.zero_le _, Nat.zero_le _⟩) hW hA (fun r14 σ13 H locs h hW => ?_)
        try dsimp only at h
        refine lv_istore_n (lv' := [(3, .int r14), (0, .ref (ad 0)), (1, .int x1), (2, .int x2)]) hx hb dX12_save_21 rfl hl (by decide) rfl (fun ls hl => ?_)
        refine lv_aload_n hx hb dX12_save_22 rfl (lv_at hl 1 rfl) ?_
        refine xgX12_33r hx hb hts hown hK hW 0 hcX12_save_X12 (hI 0 (by decide)) lR_0 (hts _ hwX12_save_4) (sR_0_33 _) dX12_save_23 ?_
        refine lv_iload_n hx hb dX12_save_26 rfl (lv_at hl 3 rfl) ?_
        obtain ⟨hi15, h⟩ := h
        refine x_iald hx hb hK hW 22 (hI 22 (by decide)) lR_22 hi15 dX12_save_27 ?_
        refine lv_if_eq (tgt := 35) hx hb dX12_save_28 (by decide) (fun c16 => ?_) (fun c16 => ?_)
        · have h := h.1 c16
          refine lv_iconst (v := 0) hx hb dX12_save_35 (by decide) ?_
          exact blk36  k8 hk8 x1 x2 r14 (0 : Int32) _ _ _ _ hW (lv_sub hl [1, 2, 3, 0] rfl) h
        · have h := h.2 c16
          refine lv_iconst (v := 1) hx hb dX12_save_31 (by decide) ?_
          refine lv_goto (tgt := 36) hx hb dX12_save_32 (by decide) ?_
          exact blk36  k8 hk8 x1 x2 r14 (1 : Int32) _ _ _ _ hW (lv_sub hl [1, 2, 3, 0] rfl) h
  have main : ∀ (H : Heap) (locs : List Loc) (ls : Array Slot), xW D KA layR stR ad ids (xA ad ids s.heap.size) s.heap σ H locs → lv_has ls 6 [(0, .ref (ad 0))] → W p l e rmX12_save s m args below meth c H locs 0 0 Q (F0 m 0 ls []) := by
    intro H locs ls hW hl
    unfold wX12_save at h
    refine lv_aload_n hx hb dX12_save_0 rfl (lv_at hl 0 rfl) ?_
    refine x_callv (va_runV (As := []) (rest := []) ⟨hx, hb, hml, hown, hts⟩ (J_X12_lays l hI h) (cwV 0 hts gX12_save_X12_lays rfl rfl rfl hdV_X12_lays ⟨Nat.le_of_ble_eq_true rfl, Nat.le_of_ble_eq_true rfl⟩) (x_preV (ci := 12) hK hZ hA hW (hI 0 (by decide)) lR_0 rfl) rfl rfl hl.1 rfl (lv_room (Nat.le_of_ble_eq_true rfl)) dX12_save_1 ⟨Nat.zero_le _, Nat.zero_le _⟩) hW hA (fun σ1001 H locs h hW => ?_)
    try dsimp only at h
    refine lv_iconst (v := 0) hx hb dX12_save_4 (by decide) ?_
    refine lv_istore_n (lv' := [(1, .int (0 : Int32)), (0, .ref (ad 0))]) hx hb dX12_save_5 rfl hl (by decide) rfl (fun ls hl => ?_)
    refine lv_iconst (v := 1) hx hb dX12_save_6 (by decide) ?_
    refine lv_istore_n (lv' := [(2, .int (1 : Int32)), (1, .int (0 : Int32)), (0, .ref (ad 0))]) hx hb dX12_save_7 rfl hl (by decide) rfl (fun ls hl => ?_)
    obtain ⟨n, h⟩ := h
    exact blk8    n (0 : Int32) (1 : Int32) _ _ _ _ hW (lv_sub hl [2, 1, 0] rfl) h
  exact main _ _ _ hW hl
theorem hwX12_set_0 : (.fieldLink RX12 44 "FortyBeltsModel" "isRun" "[I" : Cond) ∈ wsX12_set := (List.mem_cons_of_mem _ (List.mem_append_left _ (List.mem_of_getElem? (i := 5) rfl)))
theorem hwX12_set_1 : (.fieldLink RX12 41 "FortyBeltsModel" "hours" "[I" : Cond) ∈ wsX12_set := (List.mem_cons_of_mem _ (List.mem_append_left _ (List.mem_of_getElem? (i := 4) rfl)))
theorem hwX12_set_2 : (.fieldLink RX12 32 "FortyBeltsModel" "load" "[I" : Cond) ∈ wsX12_set := (List.mem_cons_of_mem _ (List.mem_append_left _ (List.mem_of_getElem? (i := 3) rfl)))
theorem hwX12_set_3 : (.constantLong RX12 186 (2) : Cond) ∈ wsX12_set := (List.mem_cons_of_mem _ (List.mem_append_left _ (List.mem_of_getElem? (i := 0) rfl)))
theorem hwX12_set_4 : (.constantLong RX12 181 (24) : Cond) ∈ wsX12_set := (List.mem_cons_of_mem _ (List.mem_append_left _ (List.mem_of_getElem? (i := 2) rfl)))
theorem hwX12_set_5 : (.constantLong RX12 173 (999) : Cond) ∈ wsX12_set := (List.mem_cons_of_mem _ (List.mem_append_left _ (List.mem_of_getElem? (i := 1) rfl)))
theorem hcX12_set_X12 : ∀ w ∈ wsX120, w ∈ wsX12_set := fun _ h => (List.mem_cons_of_mem _ (List.mem_append_right _ h))
set_option maxHeartbeats 4000000 in
set_option maxRecDepth 100000 in
theorem J_X12_set {D : va_G} {KA : Nat → ClassId} {zs : ZS} {ad : Nat → Nat} {ids : List Nat} {sz : Nat} (l : Launch) (hI : ∀ c, c < 35 → c ∈ ids) {a1 : Int32} {a2 : Int32} {a3 : Int32}  {σ : St} {post : Int32 → St → Prop} (h : wX12_set  a1 a2 a3 σ post) : Met l yX12_set wsX12_set rmX12_set (va_Pc [.ref (ad 0), .int a1, .int a2, .int a3] (xIn D KA zs layR stR ad ids sz σ)) (va_Qi post (xOut D KA layR stR ad ids) (xA ad ids sz)) 0 0 (xA ad ids sz) := by
  refine Met.ofW (cc := cX12_set) (maxL := 5) (ret := (some .int)) (by decide) rfl ?_
  intro p e s m args below meth c s₁ B hml hv
  obtain ⟨hav, hsz, hK, hZ, hP, hD⟩ := hv
  have hx := B.exec
  have hb := B.bytes
  have hr := B.returns
  have hts := atoms_spec (ws := wsX12_set) B.pre
  have hown : s.vm.findClass RX12 = some m.cls := findClass_of_methodNamed B.named
  have hlocks := B.notSynchronized
  subst hsz
  have hA : ∀ q : Nat, s.heap.size ≤ q → xA ad ids s.heap.size q := fun q h => Or.inr h
  have hW : xW D KA layR stR ad ids (xA ad ids s.heap.size) s.heap σ s.heap [] := ⟨hP, xA_D (D := D) hD, va_S.rf⟩
  have kr : ∀ (v : Int32) (σ : St) (H : Heap) (locs : List Loc) (ls : Array Slot) (pc : Nat), xW D KA layR stR ad ids (xA ad ids s.heap.size) s.heap σ H locs → post v σ → decode cX12_set pc = .ok (.ireturn, 1) → W p l e rmX12_set s m args below meth c H locs 0 0 (MQ below (va_Qi post (xOut D KA layR stR ad ids) (xA ad ids s.heap.size)) args s 0 0 (xA ad ids s.heap.size)) (F0 m pc ls [.int v]) := fun v σ H locs ls pc hW h hd => x_iret hx hb hr hlocks hW h hd
  have hl := lv_entry ([.ref (ad 0), .int a1, .int a2, .int a3]) (n := 5) (Nat.le_of_ble_eq_true rfl)
  rw [show entryFrame m args 5 = entryFrame m ([.ref (ad 0), .int a1, .int a2, .int a3] : List Value).toArray 5 from by rw [hav]]
  rw [lg_entry_eq]
  generalize (lg_sl ([.ref (ad 0), .int a1, .int a2, .int a3]) ++ List.replicate (5 - (lg_sl ([.ref (ad 0), .int a1, .int a2, .int a3])).length) Slot.unset).toArray = ls at hl ⊢
  have hl : lv_has ls 5 [(0, .ref (ad 0)), (1, .int a1), (2, .int a2), (3, .int a3)] := hl
  show W p l e rmX12_set s m args below meth c s.heap [] 0 0 _ _
  generalize MQ below (va_Qi post (xOut D KA layR stR ad ids) (xA ad ids s.heap.size)) args s 0 0 (xA ad ids s.heap.size) = Q at kr ⊢
  have blk124 : ∀ (x4 : Int32) (σ : St) (H : Heap) (locs : List Loc) (ls : Array Slot), xW D KA layR stR ad ids (xA ad ids s.heap.size) s.heap σ H locs → lv_has ls 5 [(4, .int x4)] → wX12_set_124 post x4 σ → W p l e rmX12_set s m args below meth c H locs 0 0 Q (F0 m 124 ls []) := by
    intro   x4 σ H locs ls hW hl h
    unfold wX12_set_124 at h
    refine lv_iload hx hb dX12_set_124 (lv_at hl 0 rfl) ?_
    exact kr _ _ _ _ _ _ hW h dX12_set_126
  have blk112 : ∀ (x1 : Int32) (x2 : Int32) (x3 : Int32) (x4 : Int32) (σ : St) (H : Heap) (locs : List Loc) (ls : Array Slot), xW D KA layR stR ad ids (xA ad ids s.heap.size) s.heap σ H locs → lv_has ls 5 [(0, .ref (ad 0)), (1, .int x1), (2, .int x2), (3, .int x3), (4, .int x4)] → wX12_set_112 post x1 x2 x3 x4 σ → W p l e rmX12_set s m args below meth c H locs 0 0 Q (F0 m 112 ls []) := by
    intro   x1 x2 x3 x4 σ H locs ls hW hl h
    unfold wX12_set_112 at h
    refine lv_iload_n hx hb dX12_set_112 rfl (lv_at hl 2 rfl) ?_
    refine lv_iconst (v := 2) hx hb dX12_set_113 (by decide) ?_
    refine lv_icmp_ne (tgt := 124) hx hb dX12_set_114 (by decide) (fun c1 => ?_) (fun c1 => ?_)
    · have h := h.1 c1
      exact blk124   x4 _ _ _ _ hW (lv_sub hl [4] rfl) h
    · have h := h.2 c1
      refine lv_aload_n hx hb dX12_set_117 rfl (lv_at hl 0 rfl) ?_
      refine xgX12_17r hx hb hts hown hK hW 0 hcX12_set_X12 (hI 0 (by decide)) lR_0 (hts _ hwX12_set_0) (sR_0_17 _) dX12_set_118 ?_
      refine lv_iload_n hx hb dX12_set_121 rfl (lv_at hl 1 rfl) ?_
      refine lv_iload_n hx hb dX12_set_122 rfl (lv_at hl 3 rfl) ?_
      obtain ⟨hi2, h⟩ := h
      refine x_iast hx hb hK hW 11 (hI 11 (by decide)) lR_11 hi2 dX12_set_123 (fun σ3 H locs hσ3 hW => ?_)
      have h := h σ3 hσ3
      exact blk124   x4 _ _ _ _ hW (lv_sub hl [4] rfl) h
  have blk100 : ∀ (x1 : Int32) (x2 : Int32) (x3 : Int32) (x4 : Int32) (σ : St) (H : Heap) (locs : List Loc) (ls : Array Slot), xW D KA layR stR ad ids (xA ad ids s.heap.size) s.heap σ H locs → lv_has ls 5 [(0, .ref (ad 0)), (1, .int x1), (2, .int x2), (3, .int x3), (4, .int x4)] → wX12_set_100 post x1 x2 x3 x4 σ → W p l e rmX12_set s m args below meth c H locs 0 0 Q (F0 m 100 ls []) := by
    intro   x1 x2 x3 x4 σ H locs ls hW hl h
    unfold wX12_set_100 at h
    refine lv_iload_n hx hb dX12_set_100 rfl (lv_at hl 2 rfl) ?_
    refine lv_iconst (v := 1) hx hb dX12_set_101 (by decide) ?_
    refine lv_icmp_ne (tgt := 112) hx hb dX12_set_102 (by decide) (fun c4 => ?_) (fun c4 => ?_)
    · have h := h.1 c4
      exact blk112   x1 x2 x3 x4 _ _ _ _ hW (lv_sub hl [0, 1, 2, 3, 4] rfl) h
    · have h := h.2 c4
      refine lv_aload_n hx hb dX12_set_105 rfl (lv_at hl 0 rfl) ?_
      refine xgX12_16r hx hb hts hown hK hW 0 hcX12_set_X12 (hI 0 (by decide)) lR_0 (hts _ hwX12_set_1) (sR_0_16 _) dX12_set_106 ?_
      refine lv_iload_n hx hb dX12_set_109 rfl (lv_at hl 1 rfl) ?_
      refine lv_iload_n hx hb dX12_set_110 rfl (lv_at hl 3 rfl) ?_
      obtain ⟨hi5, h⟩ := h
      refine x_iast hx hb hK hW 10 (hI 10 (by decide)) lR_10 hi5 dX12_set_111 (fun σ6 H locs hσ6 hW => ?_)
      have h := h σ6 hσ6
      exact blk112   x1 x2 x3 x4 _ _ _ _ hW (lv_sub hl [0, 1, 2, 3, 4] rfl) h
  have blk87 : ∀ (x1 : Int32) (x2 : Int32) (x3 : Int32) (s0 : Int32) (σ : St) (H : Heap) (locs : List Loc) (ls : Array Slot), xW D KA layR stR ad ids (xA ad ids s.heap.size) s.heap σ H locs → lv_has ls 5 [(0, .ref (ad 0)), (1, .int x1), (2, .int x2), (3, .int x3)] → wX12_set_87 post x1 x2 x3 s0 σ → W p l e rmX12_set s m args below meth c H locs 0 0 Q (F0 m 87 ls [.int s0]) := by
    intro   x1 x2 x3 s0 σ H locs ls hW hl h
    unfold wX12_set_87 at h
    refine lv_istore (lv' := [(4, .int s0), (0, .ref (ad 0)), (1, .int x1), (2, .int x2), (3, .int x3)]) hx hb dX12_set_87 hl (by decide) rfl (fun ls hl => ?_)
    refine lv_iload_n hx hb dX12_set_89 rfl (lv_at hl 3 rfl) ?_
    refine lv_if_ne (tgt := 100) hx hb dX12_set_90 (by decide) (fun c7 => ?_) (fun c7 => ?_)
    · have h := h.1 c7
      exact blk100   x1 x2 x3 s0 _ _ _ _ hW (lv_sub hl [1, 2, 3, 4, 0] rfl) h
    · have h := h.2 c7
      refine lv_aload_n hx hb dX12_set_93 rfl (lv_at hl 1 rfl) ?_
      refine xgX12_13r hx hb hts hown hK hW 0 hcX12_set_X12 (hI 0 (by decide)) lR_0 (hts _ hwX12_set_2) (sR_0_13 _) dX12_set_94 ?_
      refine lv_iload_n hx hb dX12_set_97 rfl (lv_at hl 2 rfl) ?_
      refine lv_iload_n hx hb dX12_set_98 rfl (lv_at hl 4 rfl) ?_
      obtain ⟨hi8, h⟩ := h
      refine x_iast hx hb hK hW 7 (hI 7 (by decide)) lR_7 hi8 dX12_set_99 (fun σ9 H locs hσ9 hW => ?_)
      have h := h σ9 hσ9
      exact blk100   x1 x2 x3 s0 _ _ _ _ hW (lv_sub hl [1, 2, 3, 4, 0] rfl) h
  have blk51 : ∀ (σ : St) (H : Heap) (locs : List Loc) (ls : Array Slot), xW D KA layR stR ad ids (xA ad ids s.heap.size) s.heap σ H locs → lv_has ls 5 [] → wX12_set_51 post  σ → W p l e rmX12_set s m args below meth c H locs 0 0 Q (F0 m 51 ls []) := by
    intro    σ H locs ls hW hl h
    unfold wX12_set_51 at h
    refine lv_bipush (v := (-2)) hx hb dX12_set_51 (by decide) ?_
    exact kr _ _ _ _ _ _ hW h dX12_set_53
  have blk45 : ∀ (x1 : Int32) (x2 : Int32) (x3 : Int32) (s0 : Int64) (s1 : Int64) (s2 : Int64) (σ : St) (H : Heap) (locs : List Loc) (ls : Array Slot), xW D KA layR stR ad ids (xA ad ids s.heap.size) s.heap σ H locs → lv_has ls 5 [(0, .ref (ad 0)), (1, .int x1), (2, .int x2), (3, .int x3)] → wX12_set_45 post x1 x2 x3 s0 s1 s2 σ → W p l e rmX12_set s m args below meth c H locs 0 0 Q (F0 m 45 ls [.long s2, .long s1, .long s0]) := by
    intro   x1 x2 x3 s0 s1 s2 σ H locs ls hW hl h
    unfold wX12_set_45 at h
    refine x_calli (va_runS (As := [.long s0, .long s1, .long s2]) (rest := []) ⟨hx, hb, hml, hown, hts⟩ (J_X12_in l hI h) (va_cwS 3 hts gX12_set_X12_in rfl rfl rfl hdS_X12_in ⟨Nat.le_of_ble_eq_true rfl, Nat.le_of_ble_eq_true rfl⟩) (x_preS hK hZ hA hW) rfl rfl hl.1 rfl (lv_room (Nat.le_of_ble_eq_true rfl)) dX12_set_45 ⟨Nat.zero_le _, Nat.zero_le _⟩) hW hA (fun r11 σ10 H locs h hW => ?_)
    try dsimp only at h
    refine lv_if_ne (tgt := 54) hx hb dX12_set_48 (by decide) (fun c12 => ?_) (fun c12 => ?_)
    · have h := h.1 c12
      refine lv_iload_n hx hb dX12_set_54 rfl (lv_at hl 2 rfl) ?_
      refine lv_if_ne (tgt := 67) hx hb dX12_set_55 (by decide) (fun c13 => ?_) (fun c13 => ?_)
      · have h := h.1 c13
        refine lv_iload_n hx hb dX12_set_67 rfl (lv_at hl 2 rfl) ?_
        refine lv_iconst (v := 1) hx hb dX12_set_68 (by decide) ?_
        refine lv_icmp_ne (tgt := 81) hx hb dX12_set_69 (by decide) (fun c14 => ?_) (fun c14 => ?_)
        · have h := h.1 c14
          refine lv_aload_n hx hb dX12_set_81 rfl (lv_at hl 0 rfl) ?_
          refine xgX12_17r hx hb hts hown hK hW 0 hcX12_set_X12 (hI 0 (by decide)) lR_0 (hts _ hwX12_set_0) (sR_0_17 _) dX12_set_82 ?_
          refine lv_iload_n hx hb dX12_set_85 rfl (lv_at hl 1 rfl) ?_
          obtain ⟨hi15, h⟩ := h
          refine x_iald hx hb hK hW 11 (hI 11 (by decide)) lR_11 hi15 dX12_set_86 ?_
          exact blk87   x1 x2 x3 (gI σ10 11 x1.toNatClampNeg) _ _ _ _ hW (lv_sub hl [0, 1, 2, 3] rfl) h
        · have h := h.2 c14
          refine lv_aload_n hx hb dX12_set_72 rfl (lv_at hl 0 rfl) ?_
          refine xgX12_16r hx hb hts hown hK hW 0 hcX12_set_X12 (hI 0 (by decide)) lR_0 (hts _ hwX12_set_1) (sR_0_16 _) dX12_set_73 ?_
          refine lv_iload_n hx hb dX12_set_76 rfl (lv_at hl 1 rfl) ?_
          obtain ⟨hi16, h⟩ := h
          refine x_iald hx hb hK hW 10 (hI 10 (by decide)) lR_10 hi16 dX12_set_77 ?_
          refine lv_goto (tgt := 87) hx hb dX12_set_78 (by decide) ?_
          exact blk87   x1 x2 x3 (gI σ10 10 x1.toNatClampNeg) _ _ _ _ hW (lv_sub hl [0, 1, 2, 3] rfl) h
      · have h := h.2 c13
        refine lv_aload_n hx hb dX12_set_58 rfl (lv_at hl 0 rfl) ?_
        refine xgX12_13r hx hb hts hown hK hW 0 hcX12_set_X12 (hI 0 (by decide)) lR_0 (hts _ hwX12_set_2) (sR_0_13 _) dX12_set_59 ?_
        refine lv_iload_n hx hb dX12_set_62 rfl (lv_at hl 1 rfl) ?_
        obtain ⟨hi17, h⟩ := h
        refine x_iald hx hb hK hW 7 (hI 7 (by decide)) lR_7 hi17 dX12_set_63 ?_
        refine lv_goto (tgt := 87) hx hb dX12_set_64 (by decide) ?_
        exact blk87   x1 x2 x3 (gI σ10 7 x1.toNatClampNeg) _ _ _ _ hW (lv_sub hl [0, 1, 2, 3] rfl) h
    · have h := h.2 c12
      exact blk51    _ _ _ _ hW (lv_sub hl [] rfl) h
  have main : ∀ (H : Heap) (locs : List Loc) (ls : Array Slot), xW D KA layR stR ad ids (xA ad ids s.heap.size) s.heap σ H locs → lv_has ls 5 [(0, .ref (ad 0)), (1, .int a1), (2, .int a2), (3, .int a3)] → W p l e rmX12_set s m args below meth c H locs 0 0 Q (F0 m 0 ls []) := by
    intro H locs ls hW hl
    unfold wX12_set at h
    refine lv_aload_n hx hb dX12_set_0 rfl (lv_at hl 0 rfl) ?_
    refine lv_iload_n hx hb dX12_set_1 rfl (lv_at hl 1 rfl) ?_
    refine x_calli (va_runV (As := [.int a1]) (rest := []) ⟨hx, hb, hml, hown, hts⟩ (J_X12_isMachine l hI h) (cwV 1 hts gX12_set_X12_isMachine rfl rfl rfl hdV_X12_isMachine ⟨Nat.le_of_ble_eq_true rfl, Nat.le_of_ble_eq_true rfl⟩) (x_preV (ci := 12) hK hZ hA hW (hI 0 (by decide)) lR_0 rfl) rfl rfl hl.1 rfl (lv_room (Nat.le_of_ble_eq_true rfl)) dX12_set_2 ⟨Nat.zero_le _, Nat.zero_le _⟩) hW hA (fun r1002 σ1001 H locs h hW => ?_)
    try dsimp only at h
    refine lv_if_eq (tgt := 51) hx hb dX12_set_5 (by decide) (fun c1003 => ?_) (fun c1003 => ?_)
    · have h := h.1 c1003
      exact blk51    _ _ _ _ hW (lv_sub hl [] rfl) h
    · have h := h.2 c1003
      refine lv_iload_n hx hb dX12_set_8 rfl (lv_at hl 2 rfl) ?_
      refine lv_i2l hx hb dX12_set_9 rfl ?_
      refine lv_lconst (v := 0) hx hb dX12_set_10 (by decide) ?_
      refine lv_ldc2 hx hb hown (hts _ hwX12_set_3) dX12_set_11 ?_
      refine x_calli (va_runS (As := [.long (a2.toInt64), .long (0 : Int64), .long (2 : Int64)]) (rest := []) ⟨hx, hb, hml, hown, hts⟩ (J_X12_in l hI h) (va_cwS 3 hts gX12_set_X12_in rfl rfl rfl hdS_X12_in ⟨Nat.le_of_ble_eq_true rfl, Nat.le_of_ble_eq_true rfl⟩) (x_preS hK hZ hA hW) rfl rfl hl.1 rfl (lv_room (Nat.le_of_ble_eq_true rfl)) dX12_set_14 ⟨Nat.zero_le _, Nat.zero_le _⟩) hW hA (fun r1005 σ1004 H locs h hW => ?_)
      try dsimp only at h
      refine lv_if_eq (tgt := 51) hx hb dX12_set_17 (by decide) (fun c1006 => ?_) (fun c1006 => ?_)
      · have h := h.1 c1006
        exact blk51    _ _ _ _ hW (lv_sub hl [] rfl) h
      · have h := h.2 c1006
        refine lv_iload_n hx hb dX12_set_20 rfl (lv_at hl 3 rfl) ?_
        refine lv_i2l hx hb dX12_set_21 rfl ?_
        refine lv_lconst (v := 0) hx hb dX12_set_22 (by decide) ?_
        refine lv_iload_n hx hb dX12_set_23 rfl (lv_at hl 2 rfl) ?_
        refine lv_if_ne (tgt := 33) hx hb dX12_set_24 (by decide) (fun c1007 => ?_) (fun c1007 => ?_)
        · have h := h.1 c1007
          refine lv_iload_n hx hb dX12_set_33 rfl (lv_at hl 2 rfl) ?_
          refine lv_iconst (v := 1) hx hb dX12_set_34 (by decide) ?_
          refine lv_icmp_ne (tgt := 44) hx hb dX12_set_35 (by decide) (fun c1008 => ?_) (fun c1008 => ?_)
          · have h := h.1 c1008
            refine lv_lconst (v := 1) hx hb dX12_set_44 (by decide) ?_
            exact blk45   a1 a2 a3 (a3.toInt64) (0 : Int64) (1 : Int64) _ _ _ _ hW (lv_sub hl [0, 1, 2, 3] rfl) h
          · have h := h.2 c1008
            refine lv_ldc2 hx hb hown (hts _ hwX12_set_4) dX12_set_38 ?_
            refine lv_goto (tgt := 45) hx hb dX12_set_41 (by decide) ?_
            exact blk45   a1 a2 a3 (a3.toInt64) (0 : Int64) (24 : Int64) _ _ _ _ hW (lv_sub hl [0, 1, 2, 3] rfl) h
        · have h := h.2 c1007
          refine lv_ldc2 hx hb hown (hts _ hwX12_set_5) dX12_set_27 ?_
          refine lv_goto (tgt := 45) hx hb dX12_set_30 (by decide) ?_
          exact blk45   a1 a2 a3 (a3.toInt64) (0 : Int64) (999 : Int64) _ _ _ _ hW (lv_sub hl [0, 1, 2, 3] rfl) h
  exact main _ _ _ hW hl
theorem hwX12_shaft_0 : (.constantLong RX12 169 (99) : Cond) ∈ wsX12_shaft := (List.mem_cons_of_mem _ (List.mem_append_left _ (List.mem_of_getElem? (i := 0) rfl)))
theorem hwX12_shaft_1 : (.constantLong RX12 171 (9999) : Cond) ∈ wsX12_shaft := (List.mem_cons_of_mem _ (List.mem_append_left _ (List.mem_of_getElem? (i := 1) rfl)))
theorem hwX12_shaft_2 : (.fieldLink RX12 153 "FortyBeltsModel" "shafts" "I" : Cond) ∈ wsX12_shaft := (List.mem_cons_of_mem _ (List.mem_append_left _ (List.mem_of_getElem? (i := 2) rfl)))
theorem hwX12_shaft_3 : (.fieldLink RX12 23 "FortyBeltsModel" "place" "[I" : Cond) ∈ wsX12_shaft := (List.mem_cons_of_mem _ (List.mem_append_left _ (List.mem_of_getElem? (i := 3) rfl)))
theorem hwX12_shaft_4 : (.fieldLink RX12 26 "FortyBeltsModel" "bends" "[I" : Cond) ∈ wsX12_shaft := (List.mem_cons_of_mem _ (List.mem_append_left _ (List.mem_of_getElem? (i := 4) rfl)))
theorem hcX12_shaft_X12 : ∀ w ∈ wsX120, w ∈ wsX12_shaft := fun _ h => (List.mem_cons_of_mem _ (List.mem_append_right _ h))
set_option maxHeartbeats 4000000 in
set_option maxRecDepth 100000 in
theorem J_X12_shaft {D : va_G} {KA : Nat → ClassId} {zs : ZS} {ad : Nat → Nat} {ids : List Nat} {sz : Nat} (l : Launch) (hI : ∀ c, c < 35 → c ∈ ids) {a1 : Int32} {a2 : Int32}  {σ : St} {post : Int32 → St → Prop} (h : wX12_shaft  a1 a2 σ post) : Met l yX12_shaft wsX12_shaft rmX12_shaft (va_Pc [.ref (ad 0), .int a1, .int a2] (xIn D KA zs layR stR ad ids sz σ)) (va_Qi post (xOut D KA layR stR ad ids) (xA ad ids sz)) 0 0 (xA ad ids sz) := by
  refine Met.ofW (cc := cX12_shaft) (maxL := 3) (ret := (some .int)) (by decide) rfl ?_
  intro p e s m args below meth c s₁ B hml hv
  obtain ⟨hav, hsz, hK, hZ, hP, hD⟩ := hv
  have hx := B.exec
  have hb := B.bytes
  have hr := B.returns
  have hts := atoms_spec (ws := wsX12_shaft) B.pre
  have hown : s.vm.findClass RX12 = some m.cls := findClass_of_methodNamed B.named
  have hlocks := B.notSynchronized
  subst hsz
  have hA : ∀ q : Nat, s.heap.size ≤ q → xA ad ids s.heap.size q := fun q h => Or.inr h
  have hW : xW D KA layR stR ad ids (xA ad ids s.heap.size) s.heap σ s.heap [] := ⟨hP, xA_D (D := D) hD, va_S.rf⟩
  have kr : ∀ (v : Int32) (σ : St) (H : Heap) (locs : List Loc) (ls : Array Slot) (pc : Nat), xW D KA layR stR ad ids (xA ad ids s.heap.size) s.heap σ H locs → post v σ → decode cX12_shaft pc = .ok (.ireturn, 1) → W p l e rmX12_shaft s m args below meth c H locs 0 0 (MQ below (va_Qi post (xOut D KA layR stR ad ids) (xA ad ids s.heap.size)) args s 0 0 (xA ad ids s.heap.size)) (F0 m pc ls [.int v]) := fun v σ H locs ls pc hW h hd => x_iret hx hb hr hlocks hW h hd
  have hl := lv_entry ([.ref (ad 0), .int a1, .int a2]) (n := 3) (Nat.le_of_ble_eq_true rfl)
  rw [show entryFrame m args 3 = entryFrame m ([.ref (ad 0), .int a1, .int a2] : List Value).toArray 3 from by rw [hav]]
  rw [lg_entry_eq]
  generalize (lg_sl ([.ref (ad 0), .int a1, .int a2]) ++ List.replicate (3 - (lg_sl ([.ref (ad 0), .int a1, .int a2])).length) Slot.unset).toArray = ls at hl ⊢
  have hl : lv_has ls 3 [(0, .ref (ad 0)), (1, .int a1), (2, .int a2)] := hl
  show W p l e rmX12_shaft s m args below meth c s.heap [] 0 0 _ _
  generalize MQ below (va_Qi post (xOut D KA layR stR ad ids) (xA ad ids s.heap.size)) args s 0 0 (xA ad ids s.heap.size) = Q at kr ⊢
  have blk24 : ∀ (σ : St) (H : Heap) (locs : List Loc) (ls : Array Slot), xW D KA layR stR ad ids (xA ad ids s.heap.size) s.heap σ H locs → lv_has ls 3 [] → wX12_shaft_24 post  σ → W p l e rmX12_shaft s m args below meth c H locs 0 0 Q (F0 m 24 ls []) := by
    intro    σ H locs ls hW hl h
    unfold wX12_shaft_24 at h
    refine lv_bipush (v := (-2)) hx hb dX12_shaft_24 (by decide) ?_
    exact kr _ _ _ _ _ _ hW h dX12_shaft_26
  have main : ∀ (H : Heap) (locs : List Loc) (ls : Array Slot), xW D KA layR stR ad ids (xA ad ids s.heap.size) s.heap σ H locs → lv_has ls 3 [(0, .ref (ad 0)), (1, .int a1), (2, .int a2)] → W p l e rmX12_shaft s m args below meth c H locs 0 0 Q (F0 m 0 ls []) := by
    intro H locs ls hW hl
    unfold wX12_shaft at h
    refine lv_iload_n hx hb dX12_shaft_0 rfl (lv_at hl 1 rfl) ?_
    refine lv_i2l hx hb dX12_shaft_1 rfl ?_
    refine lv_lconst (v := 0) hx hb dX12_shaft_2 (by decide) ?_
    refine lv_ldc2 hx hb hown (hts _ hwX12_shaft_0) dX12_shaft_3 ?_
    refine x_calli (va_runS (As := [.long (a1.toInt64), .long (0 : Int64), .long (99 : Int64)]) (rest := []) ⟨hx, hb, hml, hown, hts⟩ (J_X12_in l hI h) (va_cwS 3 hts gX12_shaft_X12_in rfl rfl rfl hdS_X12_in ⟨Nat.le_of_ble_eq_true rfl, Nat.le_of_ble_eq_true rfl⟩) (x_preS hK hZ hA hW) rfl rfl hl.1 rfl (lv_room (Nat.le_of_ble_eq_true rfl)) dX12_shaft_6 ⟨Nat.zero_le _, Nat.zero_le _⟩) hW hA (fun r1002 σ1001 H locs h hW => ?_)
    try dsimp only at h
    refine lv_if_eq (tgt := 24) hx hb dX12_shaft_9 (by decide) (fun c1003 => ?_) (fun c1003 => ?_)
    · have h := h.1 c1003
      exact blk24    _ _ _ _ hW (lv_sub hl [] rfl) h
    · have h := h.2 c1003
      refine lv_iload_n hx hb dX12_shaft_12 rfl (lv_at hl 2 rfl) ?_
      refine lv_i2l hx hb dX12_shaft_13 rfl ?_
      refine lv_lconst (v := 1) hx hb dX12_shaft_14 (by decide) ?_
      refine lv_ldc2 hx hb hown (hts _ hwX12_shaft_1) dX12_shaft_15 ?_
      refine x_calli (va_runS (As := [.long (a2.toInt64), .long (1 : Int64), .long (9999 : Int64)]) (rest := []) ⟨hx, hb, hml, hown, hts⟩ (J_X12_in l hI h) (va_cwS 3 hts gX12_shaft_X12_in rfl rfl rfl hdS_X12_in ⟨Nat.le_of_ble_eq_true rfl, Nat.le_of_ble_eq_true rfl⟩) (x_preS hK hZ hA hW) rfl rfl hl.1 rfl (lv_room (Nat.le_of_ble_eq_true rfl)) dX12_shaft_18 ⟨Nat.zero_le _, Nat.zero_le _⟩) hW hA (fun r1005 σ1004 H locs h hW => ?_)
      try dsimp only at h
      refine lv_if_ne (tgt := 27) hx hb dX12_shaft_21 (by decide) (fun c1006 => ?_) (fun c1006 => ?_)
      · have h := h.1 c1006
        refine lv_aload_n hx hb dX12_shaft_27 rfl (lv_at hl 0 rfl) ?_
        refine xgX12_9 hx hb hts hown hK hW 0 hcX12_shaft_X12 (hI 0 (by decide)) lR_0 (hts _ hwX12_shaft_2) dX12_shaft_28 ?_
        refine lv_bipush (v := 8) hx hb dX12_shaft_31 (by decide) ?_
        refine lv_icmp_ne (tgt := 39) hx hb dX12_shaft_33 (by decide) (fun c1007 => ?_) (fun c1007 => ?_)
        · have h := h.1 c1007
          refine lv_aload_n hx hb dX12_shaft_39 rfl (lv_at hl 0 rfl) ?_
          refine xgX12_7r hx hb hts hown hK hW 0 hcX12_shaft_X12 (hI 0 (by decide)) lR_0 (hts _ hwX12_shaft_3) (sR_0_7 _) dX12_shaft_40 ?_
          refine lv_aload_n hx hb dX12_shaft_43 rfl (lv_at hl 0 rfl) ?_
          refine xgX12_9 hx hb hts hown hK hW 0 hcX12_shaft_X12 (hI 0 (by decide)) lR_0 (hts _ hwX12_shaft_2) dX12_shaft_44 ?_
          refine lv_iload_n hx hb dX12_shaft_47 rfl (lv_at hl 1 rfl) ?_
          obtain ⟨hi1008, h⟩ := h
          refine x_iast hx hb hK hW 4 (hI 4 (by decide)) lR_4 hi1008 dX12_shaft_48 (fun σ1009 H locs hσ1009 hW => ?_)
          have h := h σ1009 hσ1009
          refine lv_aload_n hx hb dX12_shaft_49 rfl (lv_at hl 0 rfl) ?_
          refine xgX12_8r hx hb hts hown hK hW 0 hcX12_shaft_X12 (hI 0 (by decide)) lR_0 (hts _ hwX12_shaft_4) (sR_0_8 _) dX12_shaft_50 ?_
          refine lv_aload_n hx hb dX12_shaft_53 rfl (lv_at hl 0 rfl) ?_
          refine xgX12_9 hx hb hts hown hK hW 0 hcX12_shaft_X12 (hI 0 (by decide)) lR_0 (hts _ hwX12_shaft_2) dX12_shaft_54 ?_
          refine lv_iload_n hx hb dX12_shaft_57 rfl (lv_at hl 2 rfl) ?_
          obtain ⟨hi1010, h⟩ := h
          refine x_iast hx hb hK hW 5 (hI 5 (by decide)) lR_5 hi1010 dX12_shaft_58 (fun σ1011 H locs hσ1011 hW => ?_)
          have h := h σ1011 hσ1011
          refine lv_aload_n hx hb dX12_shaft_59 rfl (lv_at hl 0 rfl) ?_
          refine lv_dup hx hb dX12_shaft_60 rfl ?_
          refine xgX12_9 hx hb hts hown hK hW 0 hcX12_shaft_X12 (hI 0 (by decide)) lR_0 (hts _ hwX12_shaft_2) dX12_shaft_61 ?_
          refine lv_iconst (v := 1) hx hb dX12_shaft_64 (by decide) ?_
          refine lv_iadd hx hb dX12_shaft_65 ?_
          refine xpX12_9 hx hb hts hown hK hW 0 hcX12_shaft_X12 (hI 0 (by decide)) lR_0 (hts _ hwX12_shaft_2) dX12_shaft_66 (fun σ1012 H locs hσ1012 hW => ?_)
          have h := h σ1012 hσ1012
          refine lv_aload_n hx hb dX12_shaft_69 rfl (lv_at hl 0 rfl) ?_
          refine xgX12_9 hx hb hts hown hK hW 0 hcX12_shaft_X12 (hI 0 (by decide)) lR_0 (hts _ hwX12_shaft_2) dX12_shaft_70 ?_
          refine lv_iconst (v := 1) hx hb dX12_shaft_73 (by decide) ?_
          refine lv_isub hx hb dX12_shaft_74 ?_
          exact kr _ _ _ _ _ _ hW h dX12_shaft_75
        · have h := h.2 c1007
          refine lv_bipush (v := (-4)) hx hb dX12_shaft_36 (by decide) ?_
          exact kr _ _ _ _ _ _ hW h dX12_shaft_38
      · have h := h.2 c1006
        exact blk24    _ _ _ _ hW (lv_sub hl [] rfl) h
  exact main _ _ _ hW hl
theorem hwX12_sheet_0 : (.fieldLink RX12 121 "FortyBeltsModel" "items" "[I" : Cond) ∈ wsX12_sheet := (List.mem_cons_of_mem _ (List.mem_append_left _ (List.mem_of_getElem? (i := 5) rfl)))
theorem hwX12_sheet_1 : (.fieldLink RX12 115 "FortyBeltsModel" "sorts" "[I" : Cond) ∈ wsX12_sheet := (List.mem_cons_of_mem _ (List.mem_append_left _ (List.mem_of_getElem? (i := 3) rfl)))
theorem hwX12_sheet_2 : (.fieldLink RX12 118 "FortyBeltsModel" "sheetSize" "[I" : Cond) ∈ wsX12_sheet := (List.mem_cons_of_mem _ (List.mem_append_left _ (List.mem_of_getElem? (i := 4) rfl)))
theorem hwX12_sheet_3 : (.fieldLink RX12 111 "FortyBeltsModel" "isThere" "[Z" : Cond) ∈ wsX12_sheet := (List.mem_cons_of_mem _ (List.mem_append_left _ (List.mem_of_getElem? (i := 2) rfl)))
theorem hwX12_sheet_4 : (.constantLong RX12 308 (-1) : Cond) ∈ wsX12_sheet := (List.mem_cons_of_mem _ (List.mem_append_left _ (List.mem_of_getElem? (i := 0) rfl)))
theorem hwX12_sheet_5 : (.constantLong RX12 186 (2) : Cond) ∈ wsX12_sheet := (List.mem_cons_of_mem _ (List.mem_append_left _ (List.mem_of_getElem? (i := 1) rfl)))
theorem hcX12_sheet_X12 : ∀ w ∈ wsX120, w ∈ wsX12_sheet := fun _ h => (List.mem_cons_of_mem _ (List.mem_append_right _ h))
set_option maxHeartbeats 4000000 in
set_option maxRecDepth 100000 in
theorem J_X12_sheet {D : va_G} {KA : Nat → ClassId} {zs : ZS} {ad : Nat → Nat} {ids : List Nat} {sz : Nat} (l : Launch) (hI : ∀ c, c < 35 → c ∈ ids) {a1 : Int32} {a2 : Int32} {a3 : Int32}  {σ : St} {post : Int32 → St → Prop} (h : wX12_sheet  a1 a2 a3 σ post) : Met l yX12_sheet wsX12_sheet rmX12_sheet (va_Pc [.ref (ad 0), .int a1, .int a2, .int a3] (xIn D KA zs layR stR ad ids sz σ)) (va_Qi post (xOut D KA layR stR ad ids) (xA ad ids sz)) 0 0 (xA ad ids sz) := by
  refine Met.ofW (cc := cX12_sheet) (maxL := 5) (ret := (some .int)) (by decide) rfl ?_
  intro p e s m args below meth c s₁ B hml hv
  obtain ⟨hav, hsz, hK, hZ, hP, hD⟩ := hv
  have hx := B.exec
  have hb := B.bytes
  have hr := B.returns
  have hts := atoms_spec (ws := wsX12_sheet) B.pre
  have hown : s.vm.findClass RX12 = some m.cls := findClass_of_methodNamed B.named
  have hlocks := B.notSynchronized
  subst hsz
  have hA : ∀ q : Nat, s.heap.size ≤ q → xA ad ids s.heap.size q := fun q h => Or.inr h
  have hW : xW D KA layR stR ad ids (xA ad ids s.heap.size) s.heap σ s.heap [] := ⟨hP, xA_D (D := D) hD, va_S.rf⟩
  have kr : ∀ (v : Int32) (σ : St) (H : Heap) (locs : List Loc) (ls : Array Slot) (pc : Nat), xW D KA layR stR ad ids (xA ad ids s.heap.size) s.heap σ H locs → post v σ → decode cX12_sheet pc = .ok (.ireturn, 1) → W p l e rmX12_sheet s m args below meth c H locs 0 0 (MQ below (va_Qi post (xOut D KA layR stR ad ids) (xA ad ids s.heap.size)) args s 0 0 (xA ad ids s.heap.size)) (F0 m pc ls [.int v]) := fun v σ H locs ls pc hW h hd => x_iret hx hb hr hlocks hW h hd
  have hl := lv_entry ([.ref (ad 0), .int a1, .int a2, .int a3]) (n := 5) (Nat.le_of_ble_eq_true rfl)
  rw [show entryFrame m args 5 = entryFrame m ([.ref (ad 0), .int a1, .int a2, .int a3] : List Value).toArray 5 from by rw [hav]]
  rw [lg_entry_eq]
  generalize (lg_sl ([.ref (ad 0), .int a1, .int a2, .int a3]) ++ List.replicate (5 - (lg_sl ([.ref (ad 0), .int a1, .int a2, .int a3])).length) Slot.unset).toArray = ls at hl ⊢
  have hl : lv_has ls 5 [(0, .ref (ad 0)), (1, .int a1), (2, .int a2), (3, .int a3)] := hl
  show W p l e rmX12_sheet s m args below meth c s.heap [] 0 0 _ _
  generalize MQ below (va_Qi post (xOut D KA layR stR ad ids) (xA ad ids s.heap.size)) args s 0 0 (xA ad ids s.heap.size) = Q at kr ⊢
  have blk106 : ∀ (σ : St) (H : Heap) (locs : List Loc) (ls : Array Slot), xW D KA layR stR ad ids (xA ad ids s.heap.size) s.heap σ H locs → lv_has ls 5 [] → wX12_sheet_106 post  σ → W p l e rmX12_sheet s m args below meth c H locs 0 0 Q (F0 m 106 ls []) := by
    intro    σ H locs ls hW hl h
    unfold wX12_sheet_106 at h
    refine lv_iconst (v := 1) hx hb dX12_sheet_106 (by decide) ?_
    exact kr _ _ _ _ _ _ hW h dX12_sheet_107
  have blk77 : ∀ (x1 : Int32) (x2 : Int32) (x3 : Int32) (n : Nat) (x4 : Int32) (σ : St) (H : Heap) (locs : List Loc) (ls : Array Slot), xW D KA layR stR ad ids (xA ad ids s.heap.size) s.heap σ H locs → lv_has ls 5 [(0, .ref (ad 0)), (1, .int x1), (2, .int x2), (3, .int x3), (4, .int x4)] → wX12_sheet_77 post x1 x2 x3 n x4 σ → W p l e rmX12_sheet s m args below meth c H locs 0 0 Q (F0 m 77 ls []) := by
    intro   x1 x2 x3 n
    induction n with
    | zero => intro x4 σ H locs ls hW hl h; exact (h : False).elim
    | succ n ih =>
      intro x4 σ H locs ls hW hl h
      have hk77 : ∀ (x4 : Int32) (σ : St) (H : Heap) (locs : List Loc) (ls : Array Slot), xW D KA layR stR ad ids (xA ad ids s.heap.size) s.heap σ H locs → lv_has ls 5 [(0, .ref (ad 0)), (1, .int x1), (2, .int x2), (3, .int x3), (4, .int x4)] → (wX12_sheet_77 post x1 x2 x3 n) x4 σ → W p l e rmX12_sheet s m args below meth c H locs 0 0 Q (F0 m 77 ls []) := fun x4 σ H locs ls hW hl h => ih x4 σ H locs ls hW hl h
      rw [wX12_sheet_77_s] at h
      try dsimp only at h
      generalize wX12_sheet_77 post x1 x2 x3 n = k77 at h hk77
      refine lv_iload hx hb dX12_sheet_77 (lv_at hl 4 rfl) ?_
      refine lv_iload_n hx hb dX12_sheet_79 rfl (lv_at hl 3 rfl) ?_
      refine lv_icmp_ge (tgt := 106) hx hb dX12_sheet_80 (by decide) (fun c1 => ?_) (fun c1 => ?_)
      · have h := h.1 c1
        exact blk106    _ _ _ _ hW (lv_sub hl [] rfl) h
      · have h := h.2 c1
        refine lv_iload_n hx hb dX12_sheet_83 rfl (lv_at hl 2 rfl) ?_
        refine lv_if_lt (tgt := 106) hx hb dX12_sheet_84 (by decide) (fun c2 => ?_) (fun c2 => ?_)
        · have h := h.1 c2
          exact blk106    _ _ _ _ hW (lv_sub hl [] rfl) h
        · have h := h.2 c2
          refine lv_aload_n hx hb dX12_sheet_87 rfl (lv_at hl 0 rfl) ?_
          refine xgX12_70r hx hb hts hown hK hW 0 hcX12_sheet_X12 (hI 0 (by decide)) lR_0 (hts _ hwX12_sheet_0) (sR_0_70 _) dX12_sheet_88 ?_
          refine lv_bipush (v := 40) hx hb dX12_sheet_91 (by decide) ?_
          refine lv_iload_n hx hb dX12_sheet_93 rfl (lv_at hl 1 rfl) ?_
          refine lv_imul hx hb dX12_sheet_94 ?_
          refine lv_iload hx hb dX12_sheet_95 (lv_at hl 4 rfl) ?_
          refine lv_iadd hx hb dX12_sheet_97 ?_
          refine lv_iconst (v := 0) hx hb dX12_sheet_98 (by decide) ?_
          obtain ⟨hi3, h⟩ := h
          refine x_iast hx hb hK hW 34 (hI 34 (by decide)) lR_34 hi3 dX12_sheet_99 (fun σ4 H locs hσ4 hW => ?_)
          have h := h σ4 hσ4
          obtain ⟨v5, hv5⟩ : ∃ y : Int32, y = x4 + (1 : Int32) := ⟨_, rfl⟩
          have h := h v5 hv5
          refine lv_iinc (v := v5) (lv' := [(4, .int v5), (0, .ref (ad 0)), (1, .int x1), (2, .int x2), (3, .int x3)]) hx hb dX12_sheet_100 hl (k := 4) rfl (by rw [hv5]; rfl) (by decide) rfl (fun ls hl => ?_)
          refine lv_goto (tgt := 77) hx hb dX12_sheet_103 (by decide) ?_
          exact hk77 v5 _ _ _ _ hW (lv_sub hl [1, 2, 3, 4, 0] rfl) h
  have blk59 : ∀ (x1 : Int32) (x2 : Int32) (x3 : Int32) (s1 : Int32) (s2 : Int32) (σ : St) (H : Heap) (locs : List Loc) (ls : Array Slot), xW D KA layR stR ad ids (xA ad ids s.heap.size) s.heap σ H locs → lv_has ls 5 [(0, .ref (ad 0)), (1, .int x1), (2, .int x2), (3, .int x3)] → wX12_sheet_59 post x1 x2 x3 s1 s2 σ → W p l e rmX12_sheet s m args below meth c H locs 0 0 Q (F0 m 59 ls [.int s2, .int s1, .ref (ad 31)]) := by
    intro   x1 x2 x3 s1 s2 σ H locs ls hW hl h
    unfold wX12_sheet_59 at h
    obtain ⟨hi6, h⟩ := h
    obtain ⟨hz7, h⟩ := h
    refine x_zast hx hb hK hW 31 (hI 31 (by decide)) lR_31 hi6 hz7 dX12_sheet_59 (fun σ8 H locs hσ8 hW => ?_)
    have h := h σ8 hσ8
    refine lv_aload_n hx hb dX12_sheet_60 rfl (lv_at hl 0 rfl) ?_
    refine xgX12_68r hx hb hts hown hK hW 0 hcX12_sheet_X12 (hI 0 (by decide)) lR_0 (hts _ hwX12_sheet_1) (sR_0_68 _) dX12_sheet_61 ?_
    refine lv_iload_n hx hb dX12_sheet_64 rfl (lv_at hl 1 rfl) ?_
    refine lv_iload_n hx hb dX12_sheet_65 rfl (lv_at hl 2 rfl) ?_
    obtain ⟨hi9, h⟩ := h
    refine x_iast hx hb hK hW 32 (hI 32 (by decide)) lR_32 hi9 dX12_sheet_66 (fun σ10 H locs hσ10 hW => ?_)
    have h := h σ10 hσ10
    refine lv_aload_n hx hb dX12_sheet_67 rfl (lv_at hl 0 rfl) ?_
    refine xgX12_69r hx hb hts hown hK hW 0 hcX12_sheet_X12 (hI 0 (by decide)) lR_0 (hts _ hwX12_sheet_2) (sR_0_69 _) dX12_sheet_68 ?_
    refine lv_iload_n hx hb dX12_sheet_71 rfl (lv_at hl 1 rfl) ?_
    refine lv_iload_n hx hb dX12_sheet_72 rfl (lv_at hl 3 rfl) ?_
    refine x_iast hx hb hK hW 33 (hI 33 (by decide)) lR_33 hi9 dX12_sheet_73 (fun σ12 H locs hσ12 hW => ?_)
    have h := h σ12 hσ12
    refine lv_iconst (v := 0) hx hb dX12_sheet_74 (by decide) ?_
    refine lv_istore (lv' := [(4, .int (0 : Int32)), (0, .ref (ad 0)), (1, .int x1), (2, .int x2), (3, .int x3)]) hx hb dX12_sheet_75 hl (by decide) rfl (fun ls hl => ?_)
    obtain ⟨n, h⟩ := h
    exact blk77   x1 x2 x3 n (0 : Int32) _ _ _ _ hW (lv_sub hl [1, 2, 3, 4, 0] rfl) h
  have blk45 : ∀ (x1 : Int32) (x2 : Int32) (x3 : Int32) (σ : St) (H : Heap) (locs : List Loc) (ls : Array Slot), xW D KA layR stR ad ids (xA ad ids s.heap.size) s.heap σ H locs → lv_has ls 5 [(0, .ref (ad 0)), (1, .int x1), (2, .int x2), (3, .int x3)] → wX12_sheet_45 post x1 x2 x3 σ → W p l e rmX12_sheet s m args below meth c H locs 0 0 Q (F0 m 45 ls []) := by
    intro   x1 x2 x3 σ H locs ls hW hl h
    unfold wX12_sheet_45 at h
    refine lv_aload_n hx hb dX12_sheet_45 rfl (lv_at hl 0 rfl) ?_
    refine xgX12_67r hx hb hts hown hK hW 0 hcX12_sheet_X12 (hI 0 (by decide)) lR_0 (hts _ hwX12_sheet_3) (sR_0_67 _) dX12_sheet_46 ?_
    refine lv_iload_n hx hb dX12_sheet_49 rfl (lv_at hl 1 rfl) ?_
    refine lv_iload_n hx hb dX12_sheet_50 rfl (lv_at hl 2 rfl) ?_
    refine lv_if_lt (tgt := 58) hx hb dX12_sheet_51 (by decide) (fun c14 => ?_) (fun c14 => ?_)
    · have h := h.1 c14
      refine lv_iconst (v := 0) hx hb dX12_sheet_58 (by decide) ?_
      exact blk59   x1 x2 x3 x1 (0 : Int32) _ _ _ _ hW (lv_sub hl [0, 1, 2, 3] rfl) h
    · have h := h.2 c14
      refine lv_iconst (v := 1) hx hb dX12_sheet_54 (by decide) ?_
      refine lv_goto (tgt := 59) hx hb dX12_sheet_55 (by decide) ?_
      exact blk59   x1 x2 x3 x1 (1 : Int32) _ _ _ _ hW (lv_sub hl [0, 1, 2, 3] rfl) h
  have blk34 : ∀ (x1 : Int32) (x2 : Int32) (x3 : Int32) (σ : St) (H : Heap) (locs : List Loc) (ls : Array Slot), xW D KA layR stR ad ids (xA ad ids s.heap.size) s.heap σ H locs → lv_has ls 5 [(0, .ref (ad 0)), (1, .int x1), (2, .int x2), (3, .int x3)] → wX12_sheet_34 post x1 x2 x3 σ → W p l e rmX12_sheet s m args below meth c H locs 0 0 Q (F0 m 34 ls []) := by
    intro   x1 x2 x3 σ H locs ls hW hl h
    unfold wX12_sheet_34 at h
    refine lv_iload_n hx hb dX12_sheet_34 rfl (lv_at hl 2 rfl) ?_
    refine lv_if_lt (tgt := 45) hx hb dX12_sheet_35 (by decide) (fun c15 => ?_) (fun c15 => ?_)
    · have h := h.1 c15
      exact blk45   x1 x2 x3 _ _ _ _ hW (lv_sub hl [0, 1, 2, 3] rfl) h
    · have h := h.2 c15
      refine lv_iload_n hx hb dX12_sheet_38 rfl (lv_at hl 3 rfl) ?_
      refine lv_if_ge (tgt := 45) hx hb dX12_sheet_39 (by decide) (fun c16 => ?_) (fun c16 => ?_)
      · have h := h.1 c16
        exact blk45   x1 x2 x3 _ _ _ _ hW (lv_sub hl [0, 1, 2, 3] rfl) h
      · have h := h.2 c16
        refine lv_bipush (v := (-14)) hx hb dX12_sheet_42 (by decide) ?_
        exact kr _ _ _ _ _ _ hW h dX12_sheet_44
  have blk31 : ∀ (σ : St) (H : Heap) (locs : List Loc) (ls : Array Slot), xW D KA layR stR ad ids (xA ad ids s.heap.size) s.heap σ H locs → lv_has ls 5 [] → wX12_sheet_31 post  σ → W p l e rmX12_sheet s m args below meth c H locs 0 0 Q (F0 m 31 ls []) := by
    intro    σ H locs ls hW hl h
    unfold wX12_sheet_31 at h
    refine lv_bipush (v := (-2)) hx hb dX12_sheet_31 (by decide) ?_
    exact kr _ _ _ _ _ _ hW h dX12_sheet_33
  have main : ∀ (H : Heap) (locs : List Loc) (ls : Array Slot), xW D KA layR stR ad ids (xA ad ids s.heap.size) s.heap σ H locs → lv_has ls 5 [(0, .ref (ad 0)), (1, .int a1), (2, .int a2), (3, .int a3)] → W p l e rmX12_sheet s m args below meth c H locs 0 0 Q (F0 m 0 ls []) := by
    intro H locs ls hW hl
    unfold wX12_sheet at h
    refine lv_iload_n hx hb dX12_sheet_0 rfl (lv_at hl 1 rfl) ?_
    refine x_calli (va_runS (As := [.int a1]) (rest := []) ⟨hx, hb, hml, hown, hts⟩ (J_X12_isSheet l hI h) (va_cwS 1 hts gX12_sheet_X12_isSheet rfl rfl rfl hdS_X12_isSheet ⟨Nat.le_of_ble_eq_true rfl, Nat.le_of_ble_eq_true rfl⟩) (x_preS hK hZ hA hW) rfl rfl hl.1 rfl (lv_room (Nat.le_of_ble_eq_true rfl)) dX12_sheet_1 ⟨Nat.zero_le _, Nat.zero_le _⟩) hW hA (fun r1002 σ1001 H locs h hW => ?_)
    try dsimp only at h
    refine lv_if_eq (tgt := 31) hx hb dX12_sheet_4 (by decide) (fun c1003 => ?_) (fun c1003 => ?_)
    · have h := h.1 c1003
      exact blk31    _ _ _ _ hW (lv_sub hl [] rfl) h
    · have h := h.2 c1003
      refine lv_iload_n hx hb dX12_sheet_7 rfl (lv_at hl 2 rfl) ?_
      refine lv_i2l hx hb dX12_sheet_8 rfl ?_
      refine lv_ldc2 hx hb hown (hts _ hwX12_sheet_4) dX12_sheet_9 ?_
      refine lv_ldc2 hx hb hown (hts _ hwX12_sheet_5) dX12_sheet_12 ?_
      refine x_calli (va_runS (As := [.long (a2.toInt64), .long (-1 : Int64), .long (2 : Int64)]) (rest := []) ⟨hx, hb, hml, hown, hts⟩ (J_X12_in l hI h) (va_cwS 3 hts gX12_sheet_X12_in rfl rfl rfl hdS_X12_in ⟨Nat.le_of_ble_eq_true rfl, Nat.le_of_ble_eq_true rfl⟩) (x_preS hK hZ hA hW) rfl rfl hl.1 rfl (lv_room (Nat.le_of_ble_eq_true rfl)) dX12_sheet_15 ⟨Nat.zero_le _, Nat.zero_le _⟩) hW hA (fun r1005 σ1004 H locs h hW => ?_)
      try dsimp only at h
      refine lv_if_eq (tgt := 31) hx hb dX12_sheet_18 (by decide) (fun c1006 => ?_) (fun c1006 => ?_)
      · have h := h.1 c1006
        exact blk31    _ _ _ _ hW (lv_sub hl [] rfl) h
      · have h := h.2 c1006
        refine lv_iload_n hx hb dX12_sheet_21 rfl (lv_at hl 2 rfl) ?_
        refine lv_if_lt (tgt := 34) hx hb dX12_sheet_22 (by decide) (fun c1007 => ?_) (fun c1007 => ?_)
        · have h := h.1 c1007
          exact blk34   a1 a2 a3 _ _ _ _ hW (lv_sub hl [0, 1, 2, 3] rfl) h
        · have h := h.2 c1007
          refine lv_iload_n hx hb dX12_sheet_25 rfl (lv_at hl 3 rfl) ?_
          refine lv_bipush (v := 40) hx hb dX12_sheet_26 (by decide) ?_
          refine lv_icmp_le (tgt := 34) hx hb dX12_sheet_28 (by decide) (fun c1008 => ?_) (fun c1008 => ?_)
          · have h := h.1 c1008
            exact blk34   a1 a2 a3 _ _ _ _ hW (lv_sub hl [0, 1, 2, 3] rfl) h
          · have h := h.2 c1008
            exact blk31    _ _ _ _ hW (lv_sub hl [] rfl) h
  exact main _ _ _ hW hl
theorem hwX12_start_0 : (.fieldLink RX12 166 "FortyBeltsModel" "belts" "I" : Cond) ∈ wsX12_start := (List.mem_cons_of_mem _ (List.mem_append_left _ (List.mem_append_left _ (List.mem_of_getElem? (i := 0) rfl))))
theorem hwX12_start_1 : (.fieldLink RX12 68 "FortyBeltsModel" "isOn" "[I" : Cond) ∈ wsX12_start := (List.mem_cons_of_mem _ (List.mem_append_left _ (List.mem_append_left _ (List.mem_of_getElem? (i := 2) rfl))))
theorem hwX12_start_2 : (.fieldLink RX12 93 "FortyBeltsModel" "wasOn" "[I" : Cond) ∈ wsX12_start := (List.mem_cons_of_mem _ (List.mem_append_left _ (List.mem_append_left _ (List.mem_of_getElem? (i := 1) rfl))))
theorem hwX12_start_3 : (.fieldLink RX12 148 "FortyBeltsModel" "power" "I" : Cond) ∈ wsX12_start := (List.mem_cons_of_mem _ (List.mem_append_left _ (List.mem_append_left _ (List.mem_of_getElem? (i := 3) rfl))))
theorem hcX12_start_X12 : ∀ w ∈ wsX120, w ∈ wsX12_start := fun _ h => (List.mem_cons_of_mem _ (List.mem_append_right _ h))
set_option maxHeartbeats 4000000 in
set_option maxRecDepth 100000 in
theorem J_X12_start {D : va_G} {KA : Nat → ClassId} {zs : ZS} {ad : Nat → Nat} {ids : List Nat} {sz : Nat} (l : Launch) (hI : ∀ c, c < 35 → c ∈ ids) {a1 : Int32}  {σ : St} {post : Int32 → St → Prop} (h : wX12_start  a1 σ post) : Met l yX12_start wsX12_start rmX12_start (va_Pc [.ref (ad 0), .int a1] (xIn D KA zs layR stR ad ids sz σ)) (va_Qi post (xOut D KA layR stR ad ids) (xA ad ids sz)) 0 0 (xA ad ids sz) := by
  refine Met.ofW (cc := cX12_start) (maxL := 9) (ret := (some .int)) (by decide) rfl ?_
  intro p e s m args below meth c s₁ B hml hv
  obtain ⟨hav, hsz, hK, hZ, hP, hD⟩ := hv
  have hx := B.exec
  have hb := B.bytes
  have hr := B.returns
  have hts := atoms_spec (ws := wsX12_start) B.pre
  have hown : s.vm.findClass RX12 = some m.cls := findClass_of_methodNamed B.named
  have hlocks := B.notSynchronized
  subst hsz
  have hA : ∀ q : Nat, s.heap.size ≤ q → xA ad ids s.heap.size q := fun q h => Or.inr h
  have hW : xW D KA layR stR ad ids (xA ad ids s.heap.size) s.heap σ s.heap [] := ⟨hP, xA_D (D := D) hD, va_S.rf⟩
  have kr : ∀ (v : Int32) (σ : St) (H : Heap) (locs : List Loc) (ls : Array Slot) (pc : Nat), xW D KA layR stR ad ids (xA ad ids s.heap.size) s.heap σ H locs → post v σ → decode cX12_start pc = .ok (.ireturn, 1) → W p l e rmX12_start s m args below meth c H locs 0 0 (MQ below (va_Qi post (xOut D KA layR stR ad ids) (xA ad ids s.heap.size)) args s 0 0 (xA ad ids s.heap.size)) (F0 m pc ls [.int v]) := fun v σ H locs ls pc hW h hd => x_iret hx hb hr hlocks hW h hd
  have hl := lv_entry ([.ref (ad 0), .int a1]) (n := 9) (Nat.le_of_ble_eq_true rfl)
  rw [show entryFrame m args 9 = entryFrame m ([.ref (ad 0), .int a1] : List Value).toArray 9 from by rw [hav]]
  rw [lg_entry_eq]
  generalize (lg_sl ([.ref (ad 0), .int a1]) ++ List.replicate (9 - (lg_sl ([.ref (ad 0), .int a1])).length) Slot.unset).toArray = ls at hl ⊢
  have hl : lv_has ls 9 [(0, .ref (ad 0)), (1, .int a1)] := hl
  show W p l e rmX12_start s m args below meth c s.heap [] 0 0 _ _
  generalize MQ below (va_Qi post (xOut D KA layR stR ad ids) (xA ad ids s.heap.size)) args s 0 0 (xA ad ids s.heap.size) = Q at kr ⊢
  have blk240 : ∀ (s0 : Int32) (σ : St) (H : Heap) (locs : List Loc) (ls : Array Slot), xW D KA layR stR ad ids (xA ad ids s.heap.size) s.heap σ H locs → lv_has ls 9 [] → wX12_start_240 post s0 σ → W p l e rmX12_start s m args below meth c H locs 0 0 Q (F0 m 240 ls [.int s0]) := by
    intro   s0 σ H locs ls hW hl h
    unfold wX12_start_240 at h
    exact kr _ _ _ _ _ _ hW h dX12_start_240
  have blk225 : ∀ (σ : St) (H : Heap) (locs : List Loc) (ls : Array Slot), xW D KA layR stR ad ids (xA ad ids s.heap.size) s.heap σ H locs → lv_has ls 9 [] → wX12_start_225 post  σ → W p l e rmX12_start s m args below meth c H locs 0 0 Q (F0 m 225 ls []) := by
    intro    σ H locs ls hW hl h
    unfold wX12_start_225 at h
    refine lv_iconst (v := (-1)) hx hb dX12_start_225 (by decide) ?_
    refine lv_goto (tgt := 240) hx hb dX12_start_226 (by decide) ?_
    exact blk240   (-1 : Int32) _ _ _ _ hW (lv_sub hl [] rfl) h
  have blk187 : ∀ (x1 : Int32) (x2 : Int32) (x4 : Int32) (x5 : Int32) (x6 : Int32) (n : Nat) (x8 : Int32) (σ : St) (H : Heap) (locs : List Loc) (ls : Array Slot), xW D KA layR stR ad ids (xA ad ids s.heap.size) s.heap σ H locs → lv_has ls 9 [(0, .ref (ad 0)), (1, .int x1), (2, .int x2), (4, .int x4), (5, .int x5), (6, .int x6), (8, .int x8)] → wX12_start_187 post x1 x2 x4 x5 x6 n x8 σ → W p l e rmX12_start s m args below meth c H locs 0 0 Q (F0 m 187 ls []) := by
    intro   x1 x2 x4 x5 x6 n
    induction n with
    | zero => intro x8 σ H locs ls hW hl h; exact (h : False).elim
    | succ n ih =>
      intro x8 σ H locs ls hW hl h
      have hk187 : ∀ (x8 : Int32) (σ : St) (H : Heap) (locs : List Loc) (ls : Array Slot), xW D KA layR stR ad ids (xA ad ids s.heap.size) s.heap σ H locs → lv_has ls 9 [(0, .ref (ad 0)), (1, .int x1), (2, .int x2), (4, .int x4), (5, .int x5), (6, .int x6), (8, .int x8)] → (wX12_start_187 post x1 x2 x4 x5 x6 n) x8 σ → W p l e rmX12_start s m args below meth c H locs 0 0 Q (F0 m 187 ls []) := fun x8 σ H locs ls hW hl h => ih x8 σ H locs ls hW hl h
      rw [wX12_start_187_s] at h
      try dsimp only at h
      generalize wX12_start_187 post x1 x2 x4 x5 x6 n = k187 at h hk187
      refine lv_iload hx hb dX12_start_187 (lv_at hl 6 rfl) ?_
      refine lv_aload_n hx hb dX12_start_189 rfl (lv_at hl 0 rfl) ?_
      refine xgX12_28 hx hb hts hown hK hW 0 hcX12_start_X12 (hI 0 (by decide)) lR_0 (hts _ hwX12_start_0) dX12_start_190 ?_
      refine lv_icmp_ge (tgt := 216) hx hb dX12_start_193 (by decide) (fun c1 => ?_) (fun c1 => ?_)
      · have h := h.1 c1
        refine lv_iload hx hb dX12_start_216 (lv_at hl 3 rfl) ?_
        refine lv_if_ne (tgt := 225) hx hb dX12_start_218 (by decide) (fun c2 => ?_) (fun c2 => ?_)
        · have h := h.1 c2
          exact blk225    _ _ _ _ hW (lv_sub hl [] rfl) h
        · have h := h.2 c2
          refine lv_iload_n hx hb dX12_start_221 rfl (lv_at hl 2 rfl) ?_
          refine lv_if_le (tgt := 229) hx hb dX12_start_222 (by decide) (fun c3 => ?_) (fun c3 => ?_)
          · have h := h.1 c3
            refine lv_iload_n hx hb dX12_start_229 rfl (lv_at hl 1 rfl) ?_
            refine lv_if_ne (tgt := 238) hx hb dX12_start_230 (by decide) (fun c4 => ?_) (fun c4 => ?_)
            · have h := h.1 c4
              refine lv_iload hx hb dX12_start_238 (lv_at hl 5 rfl) ?_
              exact blk240   x6 _ _ _ _ hW (lv_sub hl [] rfl) h
            · have h := h.2 c4
              refine lv_iload hx hb dX12_start_233 (lv_at hl 4 rfl) ?_
              refine lv_goto (tgt := 240) hx hb dX12_start_235 (by decide) ?_
              exact blk240   x5 _ _ _ _ hW (lv_sub hl [] rfl) h
          · have h := h.2 c3
            exact blk225    _ _ _ _ hW (lv_sub hl [] rfl) h
      · have h := h.2 c1
        refine lv_aload_n hx hb dX12_start_196 rfl (lv_at hl 0 rfl) ?_
        refine xgX12_27r hx hb hts hown hK hW 0 hcX12_start_X12 (hI 0 (by decide)) lR_0 (hts _ hwX12_start_1) (sR_0_27 _) dX12_start_197 ?_
        refine lv_iload hx hb dX12_start_200 (lv_at hl 6 rfl) ?_
        refine lv_aload_n hx hb dX12_start_202 rfl (lv_at hl 0 rfl) ?_
        refine xgX12_55r hx hb hts hown hK hW 0 hcX12_start_X12 (hI 0 (by decide)) lR_0 (hts _ hwX12_start_2) (sR_0_55 _) dX12_start_203 ?_
        refine lv_iload hx hb dX12_start_206 (lv_at hl 6 rfl) ?_
        obtain ⟨hi5, h⟩ := h
        refine x_iald hx hb hK hW 25 (hI 25 (by decide)) lR_25 hi5 dX12_start_208 ?_
        refine x_iast hx hb hK hW 19 (hI 19 (by decide)) lR_19 hi5 dX12_start_209 (fun σ7 H locs hσ7 hW => ?_)
        have h := h σ7 hσ7
        obtain ⟨v8, hv8⟩ : ∃ y : Int32, y = x8 + (1 : Int32) := ⟨_, rfl⟩
        have h := h v8 hv8
        refine lv_iinc (v := v8) (lv' := [(8, .int v8), (0, .ref (ad 0)), (1, .int x1), (2, .int x2), (4, .int x4), (5, .int x5), (6, .int x6)]) hx hb dX12_start_210 hl (k := 6) rfl (by rw [hv8]; rfl) (by decide) rfl (fun ls hl => ?_)
        refine lv_goto (tgt := 187) hx hb dX12_start_213 (by decide) ?_
        exact hk187 v8 _ _ _ _ hW (lv_sub hl [1, 2, 3, 4, 5, 6, 0] rfl) h
  have blk184 : ∀ (x1 : Int32) (x2 : Int32) (x4 : Int32) (x5 : Int32) (x6 : Int32) (σ : St) (H : Heap) (locs : List Loc) (ls : Array Slot), xW D KA layR stR ad ids (xA ad ids s.heap.size) s.heap σ H locs → lv_has ls 9 [(0, .ref (ad 0)), (1, .int x1), (2, .int x2), (4, .int x4), (5, .int x5), (6, .int x6)] → wX12_start_184 post x1 x2 x4 x5 x6 σ → W p l e rmX12_start s m args below meth c H locs 0 0 Q (F0 m 184 ls []) := by
    intro   x1 x2 x4 x5 x6 σ H locs ls hW hl h
    unfold wX12_start_184 at h
    refine lv_iconst (v := 0) hx hb dX12_start_184 (by decide) ?_
    refine lv_istore (lv' := [(8, .int (0 : Int32)), (0, .ref (ad 0)), (1, .int x1), (2, .int x2), (4, .int x4), (5, .int x5), (6, .int x6)]) hx hb dX12_start_185 hl (by decide) rfl (fun ls hl => ?_)
    obtain ⟨n, h⟩ := h
    exact blk187   x1 x2 x4 x5 x6 n (0 : Int32) _ _ _ _ hW (lv_sub hl [1, 2, 3, 4, 5, 6, 0] rfl) h
  have blk173 : ∀ (x1 : Int32) (k95 : Int32 → Int32 → Int32 → Int32 → Int32 → Int32 → St → Prop) (hk95 : ∀ (x2 : Int32) (x3 : Int32) (x4 : Int32) (x5 : Int32) (x6 : Int32) (x7 : Int32) (σ : St) (H : Heap) (locs : List Loc) (ls : Array Slot), xW D KA layR stR ad ids (xA ad ids s.heap.size) s.heap σ H locs → lv_has ls 9 [(0, .ref (ad 0)), (1, .int x1), (2, .int x2), (3, .int x3), (4, .int x4), (5, .int x5), (6, .int x6), (7, .int x7)] → k95 x2 x3 x4 x5 x6 x7 σ → W p l e rmX12_start s m args below meth c H locs 0 0 Q (F0 m 95 ls [])) (x2 : Int32) (x3 : Int32) (x5 : Int32) (x6 : Int32) (s0 : Int32) (σ : St) (H : Heap) (locs : List Loc) (ls : Array Slot), xW D KA layR stR ad ids (xA ad ids s.heap.size) s.heap σ H locs → lv_has ls 9 [(0, .ref (ad 0)), (1, .int x1), (2, .int x2), (3, .int x3), (5, .int x5), (6, .int x6)] → wX12_start_173 k95 post x1 x2 x3 x5 x6 s0 σ → W p l e rmX12_start s m args below meth c H locs 0 0 Q (F0 m 173 ls [.int s0]) := by
    intro x1 k95 hk95 x2 x3 x5 x6 s0 σ H locs ls hW hl h
    unfold wX12_start_173 at h
    refine lv_istore (lv' := [(4, .int s0), (0, .ref (ad 0)), (1, .int x1), (2, .int x2), (3, .int x3), (5, .int x5), (6, .int x6)]) hx hb dX12_start_173 hl (by decide) rfl (fun ls hl => ?_)
    refine lv_aload_n hx hb dX12_start_175 rfl (lv_at hl 1 rfl) ?_
    refine x_calli (va_runV (As := []) (rest := []) ⟨hx, hb, hml, hown, hts⟩ (J_X12_nextOn l hI h) (cwV 0 hts gX12_start_X12_nextOn rfl rfl rfl hdV_X12_nextOn ⟨Nat.le_of_ble_eq_true rfl, Nat.le_of_ble_eq_true rfl⟩) (x_preV (ci := 12) hK hZ hA hW (hI 0 (by decide)) lR_0 rfl) rfl rfl hl.1 rfl (lv_room (Nat.le_of_ble_eq_true rfl)) dX12_start_176 ⟨Nat.zero_le _, Nat.zero_le _⟩) hW hA (fun r11 σ10 H locs h hW => ?_)
    try dsimp only at h
    refine lv_istore (lv' := [(7, .int r11), (4, .int s0), (0, .ref (ad 0)), (1, .int x1), (2, .int x2), (3, .int x3), (5, .int x5), (6, .int x6)]) hx hb dX12_start_179 hl (by decide) rfl (fun ls hl => ?_)
    refine lv_goto (tgt := 95) hx hb dX12_start_181 (by decide) ?_
    exact hk95 x2 x3 s0 x5 x6 r11 _ _ _ _ hW (lv_sub hl [2, 3, 4, 5, 1, 6, 7, 0] rfl) h
  have blk155 : ∀ (x1 : Int32) (k95 : Int32 → Int32 → Int32 → Int32 → Int32 → Int32 → St → Prop) (hk95 : ∀ (x2 : Int32) (x3 : Int32) (x4 : Int32) (x5 : Int32) (x6 : Int32) (x7 : Int32) (σ : St) (H : Heap) (locs : List Loc) (ls : Array Slot), xW D KA layR stR ad ids (xA ad ids s.heap.size) s.heap σ H locs → lv_has ls 9 [(0, .ref (ad 0)), (1, .int x1), (2, .int x2), (3, .int x3), (4, .int x4), (5, .int x5), (6, .int x6), (7, .int x7)] → k95 x2 x3 x4 x5 x6 x7 σ → W p l e rmX12_start s m args below meth c H locs 0 0 Q (F0 m 95 ls [])) (x2 : Int32) (x5 : Int32) (x8 : Int32) (s0 : Int32) (σ : St) (H : Heap) (locs : List Loc) (ls : Array Slot), xW D KA layR stR ad ids (xA ad ids s.heap.size) s.heap σ H locs → lv_has ls 9 [(0, .ref (ad 0)), (1, .int x1), (2, .int x2), (5, .int x5), (8, .int x8)] → wX12_start_155 k95 post x1 x2 x5 x8 s0 σ → W p l e rmX12_start s m args below meth c H locs 0 0 Q (F0 m 155 ls [.int s0]) := by
    intro x1 k95 hk95 x2 x5 x8 s0 σ H locs ls hW hl h
    unfold wX12_start_155 at h
    refine lv_istore (lv' := [(6, .int s0), (0, .ref (ad 0)), (1, .int x1), (2, .int x2), (5, .int x5), (8, .int x8)]) hx hb dX12_start_155 hl (by decide) rfl (fun ls hl => ?_)
    refine lv_iload hx hb dX12_start_157 (lv_at hl 5 rfl) ?_
    refine lv_istore_n (lv' := [(3, .int x8), (6, .int s0), (0, .ref (ad 0)), (1, .int x1), (2, .int x2), (5, .int x5), (8, .int x8)]) hx hb dX12_start_159 rfl hl (by decide) rfl (fun ls hl => ?_)
    refine lv_iload_n hx hb dX12_start_160 rfl (lv_at hl 0 rfl) ?_
    refine lv_aload_n hx hb dX12_start_161 rfl (lv_at hl 2 rfl) ?_
    refine xgX12_11 hx hb hts hown hK hW 0 hcX12_start_X12 (hI 0 (by decide)) lR_0 (hts _ hwX12_start_3) dX12_start_162 ?_
    refine lv_icmp_le (tgt := 172) hx hb dX12_start_165 (by decide) (fun c12 => ?_) (fun c12 => ?_)
    · have h := h.1 c12
      refine lv_iconst (v := 0) hx hb dX12_start_172 (by decide) ?_
      exact blk173 x1 k95 hk95 x2 x8 x5 s0 (0 : Int32) _ _ _ _ hW (lv_sub hl [2, 3, 4, 0, 5, 1] rfl) h
    · have h := h.2 c12
      refine lv_iconst (v := 1) hx hb dX12_start_168 (by decide) ?_
      refine lv_goto (tgt := 173) hx hb dX12_start_169 (by decide) ?_
      exact blk173 x1 k95 hk95 x2 x8 x5 s0 (1 : Int32) _ _ _ _ hW (lv_sub hl [2, 3, 4, 0, 5, 1] rfl) h
  have blk95 : ∀ (x1 : Int32) (n : Nat) (x2 : Int32) (x3 : Int32) (x4 : Int32) (x5 : Int32) (x6 : Int32) (x7 : Int32) (σ : St) (H : Heap) (locs : List Loc) (ls : Array Slot), xW D KA layR stR ad ids (xA ad ids s.heap.size) s.heap σ H locs → lv_has ls 9 [(0, .ref (ad 0)), (1, .int x1), (2, .int x2), (3, .int x3), (4, .int x4), (5, .int x5), (6, .int x6), (7, .int x7)] → wX12_start_95 post x1 n x2 x3 x4 x5 x6 x7 σ → W p l e rmX12_start s m args below meth c H locs 0 0 Q (F0 m 95 ls []) := by
    intro   x1 n
    induction n with
    | zero => intro x2 x3 x4 x5 x6 x7 σ H locs ls hW hl h; exact (h : False).elim
    | succ n ih =>
      intro x2 x3 x4 x5 x6 x7 σ H locs ls hW hl h
      have hk95 : ∀ (x2 : Int32) (x3 : Int32) (x4 : Int32) (x5 : Int32) (x6 : Int32) (x7 : Int32) (σ : St) (H : Heap) (locs : List Loc) (ls : Array Slot), xW D KA layR stR ad ids (xA ad ids s.heap.size) s.heap σ H locs → lv_has ls 9 [(0, .ref (ad 0)), (1, .int x1), (2, .int x2), (3, .int x3), (4, .int x4), (5, .int x5), (6, .int x6), (7, .int x7)] → (wX12_start_95 post x1 n) x2 x3 x4 x5 x6 x7 σ → W p l e rmX12_start s m args below meth c H locs 0 0 Q (F0 m 95 ls []) := fun x2 x3 x4 x5 x6 x7 σ H locs ls hW hl h => ih x2 x3 x4 x5 x6 x7 σ H locs ls hW hl h
      rw [wX12_start_95_s] at h
      try dsimp only at h
      generalize wX12_start_95 post x1 n = k95 at h hk95
      refine lv_iload hx hb dX12_start_95 (lv_at hl 4 rfl) ?_
      refine lv_if_ne (tgt := 184) hx hb dX12_start_97 (by decide) (fun c13 => ?_) (fun c13 => ?_)
      · have h := h.1 c13
        exact blk184   x1 x2 x4 x5 x6 _ _ _ _ hW (lv_sub hl [0, 1, 2, 4, 5, 6] rfl) h
      · have h := h.2 c13
        refine lv_iload hx hb dX12_start_100 (lv_at hl 7 rfl) ?_
        refine lv_iconst (v := (-1)) hx hb dX12_start_102 (by decide) ?_
        refine lv_icmp_eq (tgt := 184) hx hb dX12_start_103 (by decide) (fun c14 => ?_) (fun c14 => ?_)
        · have h := h.1 c14
          exact blk184   x1 x2 x4 x5 x6 _ _ _ _ hW (lv_sub hl [0, 1, 2, 4, 5, 6] rfl) h
        · have h := h.2 c14
          refine lv_aload_n hx hb dX12_start_106 rfl (lv_at hl 0 rfl) ?_
          refine xgX12_27r hx hb hts hown hK hW 0 hcX12_start_X12 (hI 0 (by decide)) lR_0 (hts _ hwX12_start_1) (sR_0_27 _) dX12_start_107 ?_
          refine lv_iload hx hb dX12_start_110 (lv_at hl 7 rfl) ?_
          refine lv_iconst (v := 1) hx hb dX12_start_112 (by decide) ?_
          obtain ⟨hi15, h⟩ := h
          refine x_iast hx hb hK hW 19 (hI 19 (by decide)) lR_19 hi15 dX12_start_113 (fun σ16 H locs hσ16 hW => ?_)
          have h := h σ16 hσ16
          obtain ⟨v17, hv17⟩ : ∃ y : Int32, y = x2 + (-1 : Int32) := ⟨_, rfl⟩
          have h := h v17 hv17
          refine lv_iinc (v := v17) (lv' := [(2, .int v17), (0, .ref (ad 0)), (1, .int x1), (3, .int x3), (4, .int x4), (5, .int x5), (6, .int x6), (7, .int x7)]) hx hb dX12_start_114 hl (k := 2) rfl (by rw [hv17]; rfl) (by decide) rfl (fun ls hl => ?_)
          refine lv_bipush (v := 10) hx hb dX12_start_117 (by decide) ?_
          refine lv_iload hx hb dX12_start_119 (lv_at hl 5 rfl) ?_
          refine lv_imul hx hb dX12_start_121 ?_
          refine lv_iload hx hb dX12_start_122 (lv_at hl 7 rfl) ?_
          refine lv_iadd hx hb dX12_start_124 ?_
          refine lv_topi (fun v18 hv18 => ?_)
          have h := h v18 hv18
          refine lv_istore (lv' := [(5, .int v18), (2, .int v17), (0, .ref (ad 0)), (1, .int x1), (3, .int x3), (4, .int x4), (6, .int x6), (7, .int x7)]) hx hb dX12_start_125 hl (by decide) rfl (fun ls hl => ?_)
          refine lv_aload_n hx hb dX12_start_127 rfl (lv_at hl 2 rfl) ?_
          refine x_callv (va_runV (As := []) (rest := []) ⟨hx, hb, hml, hown, hts⟩ (J_X12_lays l hI h) (cwV 0 hts gX12_start_X12_lays rfl rfl rfl hdV_X12_lays ⟨Nat.le_of_ble_eq_true rfl, Nat.le_of_ble_eq_true rfl⟩) (x_preV (ci := 12) hK hZ hA hW (hI 0 (by decide)) lR_0 rfl) rfl rfl hl.1 rfl (lv_room (Nat.le_of_ble_eq_true rfl)) dX12_start_128 ⟨Nat.zero_le _, Nat.zero_le _⟩) hW hA (fun σ19 H locs h hW => ?_)
          try dsimp only at h
          refine lv_aload_n hx hb dX12_start_131 rfl (lv_at hl 2 rfl) ?_
          refine x_calli (va_runV (As := []) (rest := []) ⟨hx, hb, hml, hown, hts⟩ (J_X12_allLoaded l hI h) (cwV 0 hts gX12_start_X12_allLoaded rfl rfl rfl hdV_X12_allLoaded ⟨Nat.le_of_ble_eq_true rfl, Nat.le_of_ble_eq_true rfl⟩) (x_preV (ci := 12) hK hZ hA hW (hI 0 (by decide)) lR_0 rfl) rfl rfl hl.1 rfl (lv_room (Nat.le_of_ble_eq_true rfl)) dX12_start_132 ⟨Nat.zero_le _, Nat.zero_le _⟩) hW hA (fun r21 σ20 H locs h hW => ?_)
          try dsimp only at h
          refine lv_istore (lv' := [(8, .int r21), (5, .int v18), (2, .int v17), (0, .ref (ad 0)), (1, .int x1), (3, .int x3), (4, .int x4), (6, .int x6), (7, .int x7)]) hx hb dX12_start_135 hl (by decide) rfl (fun ls hl => ?_)
          refine lv_iload hx hb dX12_start_137 (lv_at hl 0 rfl) ?_
          refine lv_iload_n hx hb dX12_start_139 rfl (lv_at hl 5 rfl) ?_
          refine lv_isub hx hb dX12_start_140 ?_
          refine lv_iload hx hb dX12_start_141 (lv_at hl 7 rfl) ?_
          refine lv_icmp_le (tgt := 153) hx hb dX12_start_143 (by decide) (fun c22 => ?_) (fun c22 => ?_)
          · have h := h.1 c22
            refine lv_iload hx hb dX12_start_153 (lv_at hl 7 rfl) ?_
            exact blk155 x1 k95 hk95 v17 v18 r21 x6 _ _ _ _ hW (lv_sub hl [3, 4, 2, 1, 0] rfl) h
          · have h := h.2 c22
            refine lv_iload hx hb dX12_start_146 (lv_at hl 0 rfl) ?_
            refine lv_iload_n hx hb dX12_start_148 rfl (lv_at hl 5 rfl) ?_
            refine lv_isub hx hb dX12_start_149 ?_
            refine lv_goto (tgt := 155) hx hb dX12_start_150 (by decide) ?_
            exact blk155 x1 k95 hk95 v17 v18 r21 (r21 - x3) _ _ _ _ hW (lv_sub hl [3, 4, 2, 1, 0] rfl) h
  have blk81 : ∀ (x1 : Int32) (x2 : Int32) (x3 : Int32) (s0 : Int32) (σ : St) (H : Heap) (locs : List Loc) (ls : Array Slot), xW D KA layR stR ad ids (xA ad ids s.heap.size) s.heap σ H locs → lv_has ls 9 [(0, .ref (ad 0)), (1, .int x1), (2, .int x2), (3, .int x3)] → wX12_start_81 post x1 x2 x3 s0 σ → W p l e rmX12_start s m args below meth c H locs 0 0 Q (F0 m 81 ls [.int s0]) := by
    intro   x1 x2 x3 s0 σ H locs ls hW hl h
    unfold wX12_start_81 at h
    refine lv_istore (lv' := [(4, .int s0), (0, .ref (ad 0)), (1, .int x1), (2, .int x2), (3, .int x3)]) hx hb dX12_start_81 hl (by decide) rfl (fun ls hl => ?_)
    refine lv_iconst (v := 0) hx hb dX12_start_83 (by decide) ?_
    refine lv_istore (lv' := [(5, .int (0 : Int32)), (4, .int s0), (0, .ref (ad 0)), (1, .int x1), (2, .int x2), (3, .int x3)]) hx hb dX12_start_84 hl (by decide) rfl (fun ls hl => ?_)
    refine lv_iconst (v := 0) hx hb dX12_start_86 (by decide) ?_
    refine lv_istore (lv' := [(6, .int (0 : Int32)), (5, .int (0 : Int32)), (4, .int s0), (0, .ref (ad 0)), (1, .int x1), (2, .int x2), (3, .int x3)]) hx hb dX12_start_87 hl (by decide) rfl (fun ls hl => ?_)
    refine lv_aload_n hx hb dX12_start_89 rfl (lv_at hl 3 rfl) ?_
    refine x_calli (va_runV (As := []) (rest := []) ⟨hx, hb, hml, hown, hts⟩ (J_X12_nextOn l hI h) (cwV 0 hts gX12_start_X12_nextOn rfl rfl rfl hdV_X12_nextOn ⟨Nat.le_of_ble_eq_true rfl, Nat.le_of_ble_eq_true rfl⟩) (x_preV (ci := 12) hK hZ hA hW (hI 0 (by decide)) lR_0 rfl) rfl rfl hl.1 rfl (lv_room (Nat.le_of_ble_eq_true rfl)) dX12_start_90 ⟨Nat.zero_le _, Nat.zero_le _⟩) hW hA (fun r24 σ23 H locs h hW => ?_)
    try dsimp only at h
    refine lv_istore (lv' := [(7, .int r24), (6, .int (0 : Int32)), (5, .int (0 : Int32)), (4, .int s0), (0, .ref (ad 0)), (1, .int x1), (2, .int x2), (3, .int x3)]) hx hb dX12_start_93 hl (by decide) rfl (fun ls hl => ?_)
    obtain ⟨n, h⟩ := h
    exact blk95   x1 n x2 x3 s0 (0 : Int32) (0 : Int32) r24 _ _ _ _ hW (lv_sub hl [4, 5, 6, 7, 3, 2, 1, 0] rfl) h
  have blk17 : ∀ (x1 : Int32) (n : Nat) (x2 : Int32) (x3 : Int32) (σ : St) (H : Heap) (locs : List Loc) (ls : Array Slot), xW D KA layR stR ad ids (xA ad ids s.heap.size) s.heap σ H locs → lv_has ls 9 [(0, .ref (ad 0)), (1, .int x1), (2, .int x2), (3, .int x3)] → wX12_start_17 post x1 n x2 x3 σ → W p l e rmX12_start s m args below meth c H locs 0 0 Q (F0 m 17 ls []) := by
    intro   x1 n
    induction n with
    | zero => intro x2 x3 σ H locs ls hW hl h; exact (h : False).elim
    | succ n ih =>
      intro x2 x3 σ H locs ls hW hl h
      have hk17 : ∀ (x2 : Int32) (x3 : Int32) (σ : St) (H : Heap) (locs : List Loc) (ls : Array Slot), xW D KA layR stR ad ids (xA ad ids s.heap.size) s.heap σ H locs → lv_has ls 9 [(0, .ref (ad 0)), (1, .int x1), (2, .int x2), (3, .int x3)] → (wX12_start_17 post x1 n) x2 x3 σ → W p l e rmX12_start s m args below meth c H locs 0 0 Q (F0 m 17 ls []) := fun x2 x3 σ H locs ls hW hl h => ih x2 x3 σ H locs ls hW hl h
      rw [wX12_start_17_s] at h
      try dsimp only at h
      generalize wX12_start_17 post x1 n = k17 at h hk17
      refine lv_iload_n hx hb dX12_start_17 rfl (lv_at hl 3 rfl) ?_
      refine lv_aload_n hx hb dX12_start_18 rfl (lv_at hl 0 rfl) ?_
      refine xgX12_28 hx hb hts hown hK hW 0 hcX12_start_X12 (hI 0 (by decide)) lR_0 (hts _ hwX12_start_0) dX12_start_19 ?_
      refine lv_icmp_ge (tgt := 59) hx hb dX12_start_22 (by decide) (fun c26 => ?_) (fun c26 => ?_)
      · have h := h.1 c26
        refine lv_aload_n hx hb dX12_start_59 rfl (lv_at hl 0 rfl) ?_
        refine x_callv (va_runV (As := []) (rest := []) ⟨hx, hb, hml, hown, hts⟩ (J_X12_lays l hI h) (cwV 0 hts gX12_start_X12_lays rfl rfl rfl hdV_X12_lays ⟨Nat.le_of_ble_eq_true rfl, Nat.le_of_ble_eq_true rfl⟩) (x_preV (ci := 12) hK hZ hA hW (hI 0 (by decide)) lR_0 rfl) rfl rfl hl.1 rfl (lv_room (Nat.le_of_ble_eq_true rfl)) dX12_start_60 ⟨Nat.zero_le _, Nat.zero_le _⟩) hW hA (fun σ27 H locs h hW => ?_)
        try dsimp only at h
        refine lv_aload_n hx hb dX12_start_63 rfl (lv_at hl 0 rfl) ?_
        refine x_calli (va_runV (As := []) (rest := []) ⟨hx, hb, hml, hown, hts⟩ (J_X12_allLoaded l hI h) (cwV 0 hts gX12_start_X12_allLoaded rfl rfl rfl hdV_X12_allLoaded ⟨Nat.le_of_ble_eq_true rfl, Nat.le_of_ble_eq_true rfl⟩) (x_preV (ci := 12) hK hZ hA hW (hI 0 (by decide)) lR_0 rfl) rfl rfl hl.1 rfl (lv_room (Nat.le_of_ble_eq_true rfl)) dX12_start_64 ⟨Nat.zero_le _, Nat.zero_le _⟩) hW hA (fun r29 σ28 H locs h hW => ?_)
        try dsimp only at h
        refine lv_istore_n (lv' := [(3, .int r29), (0, .ref (ad 0)), (1, .int x1), (2, .int x2)]) hx hb dX12_start_67 rfl hl (by decide) rfl (fun ls hl => ?_)
        refine lv_iload_n hx hb dX12_start_68 rfl (lv_at hl 0 rfl) ?_
        refine lv_aload_n hx hb dX12_start_69 rfl (lv_at hl 1 rfl) ?_
        refine xgX12_11 hx hb hts hown hK hW 0 hcX12_start_X12 (hI 0 (by decide)) lR_0 (hts _ hwX12_start_3) dX12_start_70 ?_
        refine lv_icmp_le (tgt := 80) hx hb dX12_start_73 (by decide) (fun c30 => ?_) (fun c30 => ?_)
        · have h := h.1 c30
          refine lv_iconst (v := 0) hx hb dX12_start_80 (by decide) ?_
          exact blk81   x1 x2 r29 (0 : Int32) _ _ _ _ hW (lv_sub hl [1, 2, 3, 0] rfl) h
        · have h := h.2 c30
          refine lv_iconst (v := 1) hx hb dX12_start_76 (by decide) ?_
          refine lv_goto (tgt := 81) hx hb dX12_start_77 (by decide) ?_
          exact blk81   x1 x2 r29 (1 : Int32) _ _ _ _ hW (lv_sub hl [1, 2, 3, 0] rfl) h
      · have h := h.2 c26
        refine lv_aload_n hx hb dX12_start_25 rfl (lv_at hl 0 rfl) ?_
        refine xgX12_55r hx hb hts hown hK hW 0 hcX12_start_X12 (hI 0 (by decide)) lR_0 (hts _ hwX12_start_2) (sR_0_55 _) dX12_start_26 ?_
        refine lv_iload_n hx hb dX12_start_29 rfl (lv_at hl 3 rfl) ?_
        refine lv_aload_n hx hb dX12_start_30 rfl (lv_at hl 0 rfl) ?_
        refine xgX12_27r hx hb hts hown hK hW 0 hcX12_start_X12 (hI 0 (by decide)) lR_0 (hts _ hwX12_start_1) (sR_0_27 _) dX12_start_31 ?_
        refine lv_iload_n hx hb dX12_start_34 rfl (lv_at hl 3 rfl) ?_
        obtain ⟨hi31, h⟩ := h
        refine x_iald hx hb hK hW 19 (hI 19 (by decide)) lR_19 hi31 dX12_start_35 ?_
        refine x_iast hx hb hK hW 25 (hI 25 (by decide)) lR_25 hi31 dX12_start_36 (fun σ33 H locs hσ33 hW => ?_)
        have h := h σ33 hσ33
        refine lv_iload_n hx hb dX12_start_37 rfl (lv_at hl 2 rfl) ?_
        refine lv_aload_n hx hb dX12_start_38 rfl (lv_at hl 0 rfl) ?_
        refine xgX12_27r hx hb hts hown hK hW 0 hcX12_start_X12 (hI 0 (by decide)) lR_0 (hts _ hwX12_start_1) (sR_0_27 _) dX12_start_39 ?_
        refine lv_iload_n hx hb dX12_start_42 rfl (lv_at hl 3 rfl) ?_
        refine x_iald hx hb hK hW 19 (hI 19 (by decide)) lR_19 hi31 dX12_start_43 ?_
        refine lv_iadd hx hb dX12_start_44 ?_
        refine lv_topi (fun v35 hv35 => ?_)
        have h := h v35 hv35
        refine lv_istore_n (lv' := [(2, .int v35), (0, .ref (ad 0)), (1, .int x1), (3, .int x3)]) hx hb dX12_start_45 rfl hl (by decide) rfl (fun ls hl => ?_)
        refine lv_aload_n hx hb dX12_start_46 rfl (lv_at hl 1 rfl) ?_
        refine xgX12_27r hx hb hts hown hK hW 0 hcX12_start_X12 (hI 0 (by decide)) lR_0 (hts _ hwX12_start_1) (sR_0_27 _) dX12_start_47 ?_
        refine lv_iload_n hx hb dX12_start_50 rfl (lv_at hl 3 rfl) ?_
        refine lv_iconst (v := 0) hx hb dX12_start_51 (by decide) ?_
        refine x_iast hx hb hK hW 19 (hI 19 (by decide)) lR_19 hi31 dX12_start_52 (fun σ37 H locs hσ37 hW => ?_)
        have h := h σ37 hσ37
        obtain ⟨v38, hv38⟩ : ∃ y : Int32, y = x3 + (1 : Int32) := ⟨_, rfl⟩
        have h := h v38 hv38
        refine lv_iinc (v := v38) (lv' := [(3, .int v38), (2, .int v35), (0, .ref (ad 0)), (1, .int x1)]) hx hb dX12_start_53 hl (k := 3) rfl (by rw [hv38]; rfl) (by decide) rfl (fun ls hl => ?_)
        refine lv_goto (tgt := 17) hx hb dX12_start_56 (by decide) ?_
        exact hk17 v35 v38 _ _ _ _ hW (lv_sub hl [2, 3, 1, 0] rfl) h
  have main : ∀ (H : Heap) (locs : List Loc) (ls : Array Slot), xW D KA layR stR ad ids (xA ad ids s.heap.size) s.heap σ H locs → lv_has ls 9 [(0, .ref (ad 0)), (1, .int a1)] → W p l e rmX12_start s m args below meth c H locs 0 0 Q (F0 m 0 ls []) := by
    intro H locs ls hW hl
    unfold wX12_start at h
    refine lv_iload_n hx hb dX12_start_0 rfl (lv_at hl 1 rfl) ?_
    refine lv_i2l hx hb dX12_start_1 rfl ?_
    refine lv_lconst (v := 0) hx hb dX12_start_2 (by decide) ?_
    refine lv_lconst (v := 1) hx hb dX12_start_3 (by decide) ?_
    refine x_calli (va_runS (As := [.long (a1.toInt64), .long (0 : Int64), .long (1 : Int64)]) (rest := []) ⟨hx, hb, hml, hown, hts⟩ (J_X12_in l hI h) (va_cwS 3 hts gX12_start_X12_in rfl rfl rfl hdS_X12_in ⟨Nat.le_of_ble_eq_true rfl, Nat.le_of_ble_eq_true rfl⟩) (x_preS hK hZ hA hW) rfl rfl hl.1 rfl (lv_room (Nat.le_of_ble_eq_true rfl)) dX12_start_4 ⟨Nat.zero_le _, Nat.zero_le _⟩) hW hA (fun r1002 σ1001 H locs h hW => ?_)
    try dsimp only at h
    refine lv_if_ne (tgt := 13) hx hb dX12_start_7 (by decide) (fun c1003 => ?_) (fun c1003 => ?_)
    · have h := h.1 c1003
      refine lv_iconst (v := 0) hx hb dX12_start_13 (by decide) ?_
      refine lv_istore_n (lv' := [(2, .int (0 : Int32)), (0, .ref (ad 0)), (1, .int a1)]) hx hb dX12_start_14 rfl hl (by decide) rfl (fun ls hl => ?_)
      refine lv_iconst (v := 0) hx hb dX12_start_15 (by decide) ?_
      refine lv_istore_n (lv' := [(3, .int (0 : Int32)), (2, .int (0 : Int32)), (0, .ref (ad 0)), (1, .int a1)]) hx hb dX12_start_16 rfl hl (by decide) rfl (fun ls hl => ?_)
      obtain ⟨n, h⟩ := h
      exact blk17   a1 n (0 : Int32) (0 : Int32) _ _ _ _ hW (lv_sub hl [2, 3, 1, 0] rfl) h
    · have h := h.2 c1003
      refine lv_bipush (v := (-2)) hx hb dX12_start_10 (by decide) ?_
      exact kr _ _ _ _ _ _ hW h dX12_start_12
  exact main _ _ _ hW hl
