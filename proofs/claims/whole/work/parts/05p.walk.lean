theorem hwX12_taken_0 : (.fieldLink RX12 65 "FortyBeltsModel" "grip" "[I" : Cond) ∈ wsX12_taken := (List.mem_cons_of_mem _ (List.mem_append_left _ (List.mem_of_getElem? (i := 2) rfl)))
theorem hwX12_taken_1 : (.constantLong RX12 188 (5) : Cond) ∈ wsX12_taken := (List.mem_cons_of_mem _ (List.mem_append_left _ (List.mem_of_getElem? (i := 0) rfl)))
theorem hwX12_taken_2 : (.fieldLink RX12 50 "FortyBeltsModel" "kind" "[I" : Cond) ∈ wsX12_taken := (List.mem_cons_of_mem _ (List.mem_append_left _ (List.mem_of_getElem? (i := 1) rfl)))
theorem hcX12_taken_X12 : ∀ w ∈ wsX120, w ∈ wsX12_taken := fun _ h => (List.mem_cons_of_mem _ (List.mem_append_right _ h))
set_option maxHeartbeats 4000000 in
set_option maxRecDepth 100000 in
theorem J_X12_taken {D : va_G} {KA : Nat → ClassId} {zs : ZS} {ad : Nat → Nat} {ids : List Nat} {sz : Nat} (l : Launch) (hI : ∀ c, c < 35 → c ∈ ids) {a1 : Int32} {a2 : Int32}  {σ : St} {post : Int32 → St → Prop} (h : wX12_taken  a1 a2 σ post) : Met l yX12_taken wsX12_taken rmX12_taken (va_Pc [.ref (ad 0), .int a1, .int a2] (xIn D KA zs layR stR ad ids sz σ)) (va_Qi post (xOut D KA layR stR ad ids) (xA ad ids sz)) 0 0 (xA ad ids sz) := by
  refine Met.ofW (cc := cX12_taken) (maxL := 4) (ret := (some .int)) (by decide) rfl ?_
  intro p e s m args below meth c s₁ B hml hv
  obtain ⟨hav, hsz, hK, hZ, hP, hD⟩ := hv
  have hx := B.exec
  have hb := B.bytes
  have hr := B.returns
  have hts := atoms_spec (ws := wsX12_taken) B.pre
  have hown : s.vm.findClass RX12 = some m.cls := findClass_of_methodNamed B.named
  have hlocks := B.notSynchronized
  subst hsz
  have hA : ∀ q : Nat, s.heap.size ≤ q → xA ad ids s.heap.size q := fun q h => Or.inr h
  have hW : xW D KA layR stR ad ids (xA ad ids s.heap.size) s.heap σ s.heap [] := ⟨hP, xA_D (D := D) hD, va_S.rf⟩
  have kr : ∀ (v : Int32) (σ : St) (H : Heap) (locs : List Loc) (ls : Array Slot) (pc : Nat), xW D KA layR stR ad ids (xA ad ids s.heap.size) s.heap σ H locs → post v σ → decode cX12_taken pc = .ok (.ireturn, 1) → W p l e rmX12_taken s m args below meth c H locs 0 0 (MQ below (va_Qi post (xOut D KA layR stR ad ids) (xA ad ids s.heap.size)) args s 0 0 (xA ad ids s.heap.size)) (F0 m pc ls [.int v]) := fun v σ H locs ls pc hW h hd => x_iret hx hb hr hlocks hW h hd
  have hl := lv_entry ([.ref (ad 0), .int a1, .int a2]) (n := 4) (Nat.le_of_ble_eq_true rfl)
  rw [show entryFrame m args 4 = entryFrame m ([.ref (ad 0), .int a1, .int a2] : List Value).toArray 4 from by rw [hav]]
  rw [lg_entry_eq]
  generalize (lg_sl ([.ref (ad 0), .int a1, .int a2]) ++ List.replicate (4 - (lg_sl ([.ref (ad 0), .int a1, .int a2])).length) Slot.unset).toArray = ls at hl ⊢
  have hl : lv_has ls 4 [(0, .ref (ad 0)), (1, .int a1), (2, .int a2)] := hl
  show W p l e rmX12_taken s m args below meth c s.heap [] 0 0 _ _
  generalize MQ below (va_Qi post (xOut D KA layR stR ad ids) (xA ad ids s.heap.size)) args s 0 0 (xA ad ids s.heap.size) = Q at kr ⊢
  have blk67 : ∀ (s0 : Int32) (σ : St) (H : Heap) (locs : List Loc) (ls : Array Slot), xW D KA layR stR ad ids (xA ad ids s.heap.size) s.heap σ H locs → lv_has ls 4 [] → wX12_taken_67 post s0 σ → W p l e rmX12_taken s m args below meth c H locs 0 0 Q (F0 m 67 ls [.int s0]) := by
    intro   s0 σ H locs ls hW hl h
    unfold wX12_taken_67 at h
    exact kr _ _ _ _ _ _ hW h dX12_taken_67
  have blk51 : ∀ (x1 : Int32) (x2 : Int32) (x3 : Int32) (σ : St) (H : Heap) (locs : List Loc) (ls : Array Slot), xW D KA layR stR ad ids (xA ad ids s.heap.size) s.heap σ H locs → lv_has ls 4 [(0, .ref (ad 0)), (1, .int x1), (2, .int x2), (3, .int x3)] → wX12_taken_51 post x1 x2 x3 σ → W p l e rmX12_taken s m args below meth c H locs 0 0 Q (F0 m 51 ls []) := by
    intro   x1 x2 x3 σ H locs ls hW hl h
    unfold wX12_taken_51 at h
    refine lv_iload_n hx hb dX12_taken_51 rfl (lv_at hl 3 rfl) ?_
    refine lv_iload_n hx hb dX12_taken_52 rfl (lv_at hl 2 rfl) ?_
    refine lv_icmp_ne (tgt := 65) hx hb dX12_taken_53 (by decide) (fun c1 => ?_) (fun c1 => ?_)
    · have h := h.1 c1
      refine lv_bipush (v := (-13)) hx hb dX12_taken_65 (by decide) ?_
      exact blk67   (-13 : Int32) _ _ _ _ hW (lv_sub hl [] rfl) h
    · have h := h.2 c1
      refine lv_aload_n hx hb dX12_taken_56 rfl (lv_at hl 0 rfl) ?_
      refine xgX12_26r hx hb hts hown hK hW 0 hcX12_taken_X12 (hI 0 (by decide)) lR_0 (hts _ hwX12_taken_0) (sR_0_26 _) dX12_taken_57 ?_
      refine lv_iload_n hx hb dX12_taken_60 rfl (lv_at hl 1 rfl) ?_
      obtain ⟨hi2, h⟩ := h
      refine x_iald hx hb hK hW 18 (hI 18 (by decide)) lR_18 hi2 dX12_taken_61 ?_
      refine lv_goto (tgt := 67) hx hb dX12_taken_62 (by decide) ?_
      exact blk67   (gI σ 18 x1.toNatClampNeg) _ _ _ _ hW (lv_sub hl [] rfl) h
  have blk33 : ∀ (x1 : Int32) (x2 : Int32) (n : Nat) (x3 : Int32) (σ : St) (H : Heap) (locs : List Loc) (ls : Array Slot), xW D KA layR stR ad ids (xA ad ids s.heap.size) s.heap σ H locs → lv_has ls 4 [(0, .ref (ad 0)), (1, .int x1), (2, .int x2), (3, .int x3)] → wX12_taken_33 post x1 x2 n x3 σ → W p l e rmX12_taken s m args below meth c H locs 0 0 Q (F0 m 33 ls []) := by
    intro   x1 x2 n
    induction n with
    | zero => intro x3 σ H locs ls hW hl h; exact (h : False).elim
    | succ n ih =>
      intro x3 σ H locs ls hW hl h
      have hk33 : ∀ (x3 : Int32) (σ : St) (H : Heap) (locs : List Loc) (ls : Array Slot), xW D KA layR stR ad ids (xA ad ids s.heap.size) s.heap σ H locs → lv_has ls 4 [(0, .ref (ad 0)), (1, .int x1), (2, .int x2), (3, .int x3)] → (wX12_taken_33 post x1 x2 n) x3 σ → W p l e rmX12_taken s m args below meth c H locs 0 0 Q (F0 m 33 ls []) := fun x3 σ H locs ls hW hl h => ih x3 σ H locs ls hW hl h
      rw [wX12_taken_33_s] at h
      try dsimp only at h
      generalize wX12_taken_33 post x1 x2 n = k33 at h hk33
      refine lv_iload_n hx hb dX12_taken_33 rfl (lv_at hl 3 rfl) ?_
      refine lv_iconst (v := (-1)) hx hb dX12_taken_34 (by decide) ?_
      refine lv_icmp_eq (tgt := 51) hx hb dX12_taken_35 (by decide) (fun c3 => ?_) (fun c3 => ?_)
      · have h := h.1 c3
        exact blk51   x1 x2 x3 _ _ _ _ hW (lv_sub hl [0, 1, 2, 3] rfl) h
      · have h := h.2 c3
        refine lv_iload_n hx hb dX12_taken_38 rfl (lv_at hl 3 rfl) ?_
        refine lv_iload_n hx hb dX12_taken_39 rfl (lv_at hl 2 rfl) ?_
        refine lv_icmp_eq (tgt := 51) hx hb dX12_taken_40 (by decide) (fun c4 => ?_) (fun c4 => ?_)
        · have h := h.1 c4
          exact blk51   x1 x2 x3 _ _ _ _ hW (lv_sub hl [0, 1, 2, 3] rfl) h
        · have h := h.2 c4
          refine lv_iload_n hx hb dX12_taken_43 rfl (lv_at hl 3 rfl) ?_
          refine x_calli (va_runS (As := [.int x3]) (rest := []) ⟨hx, hb, hml, hown, hts⟩ (J_X12_over l hI h) (va_cwS 1 hts gX12_taken_X12_over rfl rfl rfl hdS_X12_over ⟨Nat.le_of_ble_eq_true rfl, Nat.le_of_ble_eq_true rfl⟩) (x_preS hK hZ hA hW) rfl rfl hl.1 rfl (lv_room (Nat.le_of_ble_eq_true rfl)) dX12_taken_44 ⟨Nat.zero_le _, Nat.zero_le _⟩) hW hA (fun r6 σ5 H locs h hW => ?_)
          try dsimp only at h
          refine lv_istore_n (lv' := [(3, .int r6), (0, .ref (ad 0)), (1, .int x1), (2, .int x2)]) hx hb dX12_taken_47 rfl hl (by decide) rfl (fun ls hl => ?_)
          refine lv_goto (tgt := 33) hx hb dX12_taken_48 (by decide) ?_
          exact hk33 r6 _ _ _ _ hW (lv_sub hl [1, 2, 3, 0] rfl) h
  have main : ∀ (H : Heap) (locs : List Loc) (ls : Array Slot), xW D KA layR stR ad ids (xA ad ids s.heap.size) s.heap σ H locs → lv_has ls 4 [(0, .ref (ad 0)), (1, .int a1), (2, .int a2)] → W p l e rmX12_taken s m args below meth c H locs 0 0 Q (F0 m 0 ls []) := by
    intro H locs ls hW hl
    unfold wX12_taken at h
    refine lv_iload_n hx hb dX12_taken_0 rfl (lv_at hl 2 rfl) ?_
    refine lv_i2l hx hb dX12_taken_1 rfl ?_
    refine lv_lconst (v := 0) hx hb dX12_taken_2 (by decide) ?_
    refine lv_ldc2 hx hb hown (hts _ hwX12_taken_1) dX12_taken_3 ?_
    refine x_calli (va_runS (As := [.long (a2.toInt64), .long (0 : Int64), .long (5 : Int64)]) (rest := []) ⟨hx, hb, hml, hown, hts⟩ (J_X12_in l hI h) (va_cwS 3 hts gX12_taken_X12_in rfl rfl rfl hdS_X12_in ⟨Nat.le_of_ble_eq_true rfl, Nat.le_of_ble_eq_true rfl⟩) (x_preS hK hZ hA hW) rfl rfl hl.1 rfl (lv_room (Nat.le_of_ble_eq_true rfl)) dX12_taken_6 ⟨Nat.zero_le _, Nat.zero_le _⟩) hW hA (fun r1002 σ1001 H locs h hW => ?_)
    try dsimp only at h
    refine lv_if_ne (tgt := 15) hx hb dX12_taken_9 (by decide) (fun c1003 => ?_) (fun c1003 => ?_)
    · have h := h.1 c1003
      refine lv_aload_n hx hb dX12_taken_15 rfl (lv_at hl 0 rfl) ?_
      refine lv_iload_n hx hb dX12_taken_16 rfl (lv_at hl 1 rfl) ?_
      refine x_calli (va_runV (As := [.int a1]) (rest := []) ⟨hx, hb, hml, hown, hts⟩ (J_X12_isBelt l hI h) (cwV 1 hts gX12_taken_X12_isBelt rfl rfl rfl hdV_X12_isBelt ⟨Nat.le_of_ble_eq_true rfl, Nat.le_of_ble_eq_true rfl⟩) (x_preV (ci := 12) hK hZ hA hW (hI 0 (by decide)) lR_0 rfl) rfl rfl hl.1 rfl (lv_room (Nat.le_of_ble_eq_true rfl)) dX12_taken_17 ⟨Nat.zero_le _, Nat.zero_le _⟩) hW hA (fun r1005 σ1004 H locs h hW => ?_)
      try dsimp only at h
      refine lv_if_ne (tgt := 26) hx hb dX12_taken_20 (by decide) (fun c1006 => ?_) (fun c1006 => ?_)
      · have h := h.1 c1006
        refine lv_aload_n hx hb dX12_taken_26 rfl (lv_at hl 0 rfl) ?_
        refine xgX12_21r hx hb hts hown hK hW 0 hcX12_taken_X12 (hI 0 (by decide)) lR_0 (hts _ hwX12_taken_2) (sR_0_21 _) dX12_taken_27 ?_
        refine lv_iload_n hx hb dX12_taken_30 rfl (lv_at hl 1 rfl) ?_
        obtain ⟨hi1007, h⟩ := h
        refine x_iald hx hb hK hW 13 (hI 13 (by decide)) lR_13 hi1007 dX12_taken_31 ?_
        refine lv_topi (fun v1008 hv1008 => ?_)
        have h := h v1008 hv1008
        refine lv_istore_n (lv' := [(3, .int v1008), (0, .ref (ad 0)), (1, .int a1), (2, .int a2)]) hx hb dX12_taken_32 rfl hl (by decide) rfl (fun ls hl => ?_)
        obtain ⟨n, h⟩ := h
        exact blk33   a1 a2 n v1008 _ _ _ _ hW (lv_sub hl [1, 2, 3, 0] rfl) h
      · have h := h.2 c1006
        refine lv_bipush (v := (-11)) hx hb dX12_taken_23 (by decide) ?_
        exact kr _ _ _ _ _ _ hW h dX12_taken_25
    · have h := h.2 c1003
      refine lv_bipush (v := (-2)) hx hb dX12_taken_12 (by decide) ?_
      exact kr _ _ _ _ _ _ hW h dX12_taken_14
  exact main _ _ _ hW hl
theorem hwX12_text_0 : (.fieldLink RX12 275 "FortyBeltsModel" "taped" "I" : Cond) ∈ wsX12_text := (List.mem_cons_of_mem _ (List.mem_append_left _ (List.mem_append_left _ (List.mem_of_getElem? (i := 1) rfl))))
theorem hwX12_text_1 : (.fieldLink RX12 17 "FortyBeltsModel" "textSize" "[I" : Cond) ∈ wsX12_text := (List.mem_cons_of_mem _ (List.mem_append_left _ (List.mem_append_left _ (List.mem_of_getElem? (i := 4) rfl))))
theorem hwX12_text_2 : (.fieldLink RX12 142 "FortyBeltsModel" "textCount" "I" : Cond) ∈ wsX12_text := (List.mem_cons_of_mem _ (List.mem_append_left _ (List.mem_append_left _ (List.mem_of_getElem? (i := 0) rfl))))
theorem hwX12_text_3 : (.fieldLink RX12 316 "FortyBeltsModel" "bad" "Z" : Cond) ∈ wsX12_text := (List.mem_cons_of_mem _ (List.mem_append_left _ (List.mem_append_left _ (List.mem_of_getElem? (i := 5) rfl))))
theorem hwX12_text_4 : (.fieldLink RX12 320 "FortyBeltsModel" "fault" "I" : Cond) ∈ wsX12_text := (List.mem_cons_of_mem _ (List.mem_append_left _ (List.mem_append_left _ (List.mem_of_getElem? (i := 6) rfl))))
theorem hwX12_text_5 : (.fieldLink RX12 13 "FortyBeltsModel" "texts" "[I" : Cond) ∈ wsX12_text := (List.mem_cons_of_mem _ (List.mem_append_left _ (List.mem_append_left _ (List.mem_of_getElem? (i := 2) rfl))))
theorem hwX12_text_6 : (.fieldLink RX12 20 "FortyBeltsModel" "tape" "[I" : Cond) ∈ wsX12_text := (List.mem_cons_of_mem _ (List.mem_append_left _ (List.mem_append_left _ (List.mem_of_getElem? (i := 3) rfl))))
theorem hcX12_text_X12 : ∀ w ∈ wsX120, w ∈ wsX12_text := fun _ h => (List.mem_cons_of_mem _ (List.mem_append_right _ h))
set_option maxHeartbeats 4000000 in
set_option maxRecDepth 100000 in
theorem J_X12_text {D : va_G} {KA : Nat → ClassId} {zs : ZS} {ad : Nat → Nat} {ids : List Nat} {sz : Nat} (l : Launch) (hI : ∀ c, c < 35 → c ∈ ids)   {σ : St} {post : Int32 → St → Prop} (h : wX12_text   σ post) : Met l yX12_text wsX12_text rmX12_text (va_Pc [.ref (ad 0)] (xIn D KA zs layR stR ad ids sz σ)) (va_Qi post (xOut D KA layR stR ad ids) (xA ad ids sz)) 0 0 (xA ad ids sz) := by
  refine Met.ofW (cc := cX12_text) (maxL := 2) (ret := (some .int)) (by decide) rfl ?_
  intro p e s m args below meth c s₁ B hml hv
  obtain ⟨hav, hsz, hK, hZ, hP, hD⟩ := hv
  have hx := B.exec
  have hb := B.bytes
  have hr := B.returns
  have hts := atoms_spec (ws := wsX12_text) B.pre
  have hown : s.vm.findClass RX12 = some m.cls := findClass_of_methodNamed B.named
  have hlocks := B.notSynchronized
  subst hsz
  have hA : ∀ q : Nat, s.heap.size ≤ q → xA ad ids s.heap.size q := fun q h => Or.inr h
  have hW : xW D KA layR stR ad ids (xA ad ids s.heap.size) s.heap σ s.heap [] := ⟨hP, xA_D (D := D) hD, va_S.rf⟩
  have kr : ∀ (v : Int32) (σ : St) (H : Heap) (locs : List Loc) (ls : Array Slot) (pc : Nat), xW D KA layR stR ad ids (xA ad ids s.heap.size) s.heap σ H locs → post v σ → decode cX12_text pc = .ok (.ireturn, 1) → W p l e rmX12_text s m args below meth c H locs 0 0 (MQ below (va_Qi post (xOut D KA layR stR ad ids) (xA ad ids s.heap.size)) args s 0 0 (xA ad ids s.heap.size)) (F0 m pc ls [.int v]) := fun v σ H locs ls pc hW h hd => x_iret hx hb hr hlocks hW h hd
  have hl := lv_entry ([.ref (ad 0)]) (n := 2) (Nat.le_of_ble_eq_true rfl)
  rw [show entryFrame m args 2 = entryFrame m ([.ref (ad 0)] : List Value).toArray 2 from by rw [hav]]
  rw [lg_entry_eq]
  generalize (lg_sl ([.ref (ad 0)]) ++ List.replicate (2 - (lg_sl ([.ref (ad 0)])).length) Slot.unset).toArray = ls at hl ⊢
  have hl : lv_has ls 2 [(0, .ref (ad 0))] := hl
  show W p l e rmX12_text s m args below meth c s.heap [] 0 0 _ _
  generalize MQ below (va_Qi post (xOut D KA layR stR ad ids) (xA ad ids s.heap.size)) args s 0 0 (xA ad ids s.heap.size) = Q at kr ⊢
  have blk14 : ∀ (n : Nat) (x1 : Int32) (σ : St) (H : Heap) (locs : List Loc) (ls : Array Slot), xW D KA layR stR ad ids (xA ad ids s.heap.size) s.heap σ H locs → lv_has ls 2 [(0, .ref (ad 0)), (1, .int x1)] → wX12_text_14 post  n x1 σ → W p l e rmX12_text s m args below meth c H locs 0 0 Q (F0 m 14 ls []) := by
    intro    n
    induction n with
    | zero => intro x1 σ H locs ls hW hl h; exact (h : False).elim
    | succ n ih =>
      intro x1 σ H locs ls hW hl h
      have hk14 : ∀ (x1 : Int32) (σ : St) (H : Heap) (locs : List Loc) (ls : Array Slot), xW D KA layR stR ad ids (xA ad ids s.heap.size) s.heap σ H locs → lv_has ls 2 [(0, .ref (ad 0)), (1, .int x1)] → (wX12_text_14 post  n) x1 σ → W p l e rmX12_text s m args below meth c H locs 0 0 Q (F0 m 14 ls []) := fun x1 σ H locs ls hW hl h => ih x1 σ H locs ls hW hl h
      rw [wX12_text_14_s] at h
      try dsimp only at h
      generalize wX12_text_14 post  n = k14 at h hk14
      refine lv_iload_n hx hb dX12_text_14 rfl (lv_at hl 1 rfl) ?_
      refine lv_aload_n hx hb dX12_text_15 rfl (lv_at hl 0 rfl) ?_
      refine xgX12_6 hx hb hts hown hK hW 0 hcX12_text_X12 (hI 0 (by decide)) lR_0 (hts _ hwX12_text_0) dX12_text_16 ?_
      refine lv_icmp_ge (tgt := 49) hx hb dX12_text_19 (by decide) (fun c1 => ?_) (fun c1 => ?_)
      · have h := h.1 c1
        refine lv_aload_n hx hb dX12_text_49 rfl (lv_at hl 0 rfl) ?_
        refine xgX12_2r hx hb hts hown hK hW 0 hcX12_text_X12 (hI 0 (by decide)) lR_0 (hts _ hwX12_text_1) (sR_0_2 _) dX12_text_50 ?_
        refine lv_aload_n hx hb dX12_text_53 rfl (lv_at hl 0 rfl) ?_
        refine xgX12_3 hx hb hts hown hK hW 0 hcX12_text_X12 (hI 0 (by decide)) lR_0 (hts _ hwX12_text_2) dX12_text_54 ?_
        refine lv_aload_n hx hb dX12_text_57 rfl (lv_at hl 0 rfl) ?_
        refine xgX12_6 hx hb hts hown hK hW 0 hcX12_text_X12 (hI 0 (by decide)) lR_0 (hts _ hwX12_text_0) dX12_text_58 ?_
        obtain ⟨hi2, h⟩ := h
        refine x_iast hx hb hK hW 2 (hI 2 (by decide)) lR_2 hi2 dX12_text_61 (fun σ3 H locs hσ3 hW => ?_)
        have h := h σ3 hσ3
        refine lv_aload_n hx hb dX12_text_62 rfl (lv_at hl 0 rfl) ?_
        refine lv_iconst (v := 0) hx hb dX12_text_63 (by decide) ?_
        refine xpX12_6 hx hb hts hown hK hW 0 hcX12_text_X12 (hI 0 (by decide)) lR_0 (hts _ hwX12_text_0) dX12_text_64 (fun σ4 H locs hσ4 hW => ?_)
        have h := h σ4 hσ4
        refine lv_aload_n hx hb dX12_text_67 rfl (lv_at hl 0 rfl) ?_
        refine lv_aload_n hx hb dX12_text_68 rfl (lv_at hl 0 rfl) ?_
        refine xgX12_3 hx hb hts hown hK hW 0 hcX12_text_X12 (hI 0 (by decide)) lR_0 (hts _ hwX12_text_2) dX12_text_69 ?_
        refine lv_iconst (v := 0) hx hb dX12_text_72 (by decide) ?_
        refine lv_iconst (v := 0) hx hb dX12_text_73 (by decide) ?_
        refine lv_iconst (v := 0) hx hb dX12_text_74 (by decide) ?_
        refine lv_iconst (v := 0) hx hb dX12_text_75 (by decide) ?_
        refine lv_iconst (v := 0) hx hb dX12_text_76 (by decide) ?_
        refine lv_iconst (v := 0) hx hb dX12_text_77 (by decide) ?_
        refine lv_iconst (v := 0) hx hb dX12_text_78 (by decide) ?_
        refine x_calli (va_runV (As := [.int (gI σ4 0 3), .int (0 : Int32), .int (0 : Int32), .int (0 : Int32), .int (0 : Int32), .int (0 : Int32), .int (0 : Int32), .int (0 : Int32)]) (rest := []) ⟨hx, hb, hml, hown, hts⟩ (J_X12_read l hI h) (cwV 8 hts gX12_text_X12_read rfl rfl rfl hdV_X12_read ⟨Nat.le_of_ble_eq_true rfl, Nat.le_of_ble_eq_true rfl⟩) (x_preV (ci := 12) hK hZ hA hW (hI 0 (by decide)) lR_0 rfl) rfl rfl hl.1 rfl (lv_room (Nat.le_of_ble_eq_true rfl)) dX12_text_79 ⟨Nat.zero_le _, Nat.zero_le _⟩) hW hA (fun r6 σ5 H locs h hW => ?_)
        try dsimp only at h
        refine lv_istore_n (lv' := [(1, .int r6), (0, .ref (ad 0))]) hx hb dX12_text_82 rfl hl (by decide) rfl (fun ls hl => ?_)
        refine lv_aload_n hx hb dX12_text_83 rfl (lv_at hl 1 rfl) ?_
        refine xgX12_43 hx hb hts hown hK hW 0 hcX12_text_X12 (hI 0 (by decide)) lR_0 (hts _ hwX12_text_3) dX12_text_84 ?_
        refine lv_if_eq (tgt := 98) hx hb dX12_text_87 (by decide) (fun c7 => ?_) (fun c7 => ?_)
        · have h := h.1 c7
          refine lv_aload_n hx hb dX12_text_98 rfl (lv_at hl 1 rfl) ?_
          refine lv_dup hx hb dX12_text_99 rfl ?_
          refine xgX12_3 hx hb hts hown hK hW 0 hcX12_text_X12 (hI 0 (by decide)) lR_0 (hts _ hwX12_text_2) dX12_text_100 ?_
          refine lv_iconst (v := 1) hx hb dX12_text_103 (by decide) ?_
          refine lv_iadd hx hb dX12_text_104 ?_
          refine xpX12_3 hx hb hts hown hK hW 0 hcX12_text_X12 (hI 0 (by decide)) lR_0 (hts _ hwX12_text_2) dX12_text_105 (fun σ8 H locs hσ8 hW => ?_)
          have h := h σ8 hσ8
          refine lv_aload_n hx hb dX12_text_108 rfl (lv_at hl 1 rfl) ?_
          refine xgX12_3 hx hb hts hown hK hW 0 hcX12_text_X12 (hI 0 (by decide)) lR_0 (hts _ hwX12_text_2) dX12_text_109 ?_
          refine lv_iconst (v := 1) hx hb dX12_text_112 (by decide) ?_
          refine lv_isub hx hb dX12_text_113 ?_
          exact kr _ _ _ _ _ _ hW h dX12_text_114
        · have h := h.2 c7
          refine lv_bipush (v := (-100)) hx hb dX12_text_90 (by decide) ?_
          refine lv_aload_n hx hb dX12_text_92 rfl (lv_at hl 1 rfl) ?_
          refine xgX12_44 hx hb hts hown hK hW 0 hcX12_text_X12 (hI 0 (by decide)) lR_0 (hts _ hwX12_text_4) dX12_text_93 ?_
          refine lv_isub hx hb dX12_text_96 ?_
          exact kr _ _ _ _ _ _ hW h dX12_text_97
      · have h := h.2 c1
        refine lv_aload_n hx hb dX12_text_22 rfl (lv_at hl 0 rfl) ?_
        refine xgX12_1r hx hb hts hown hK hW 0 hcX12_text_X12 (hI 0 (by decide)) lR_0 (hts _ hwX12_text_5) (sR_0_1 _) dX12_text_23 ?_
        refine lv_sipush (v := 160) hx hb dX12_text_26 (by decide) ?_
        refine lv_aload_n hx hb dX12_text_29 rfl (lv_at hl 0 rfl) ?_
        refine xgX12_3 hx hb hts hown hK hW 0 hcX12_text_X12 (hI 0 (by decide)) lR_0 (hts _ hwX12_text_2) dX12_text_30 ?_
        refine lv_imul hx hb dX12_text_33 ?_
        refine lv_iload_n hx hb dX12_text_34 rfl (lv_at hl 1 rfl) ?_
        refine lv_iadd hx hb dX12_text_35 ?_
        refine lv_aload_n hx hb dX12_text_36 rfl (lv_at hl 0 rfl) ?_
        refine xgX12_5r hx hb hts hown hK hW 0 hcX12_text_X12 (hI 0 (by decide)) lR_0 (hts _ hwX12_text_6) (sR_0_5 _) dX12_text_37 ?_
        refine lv_iload_n hx hb dX12_text_40 rfl (lv_at hl 1 rfl) ?_
        obtain ⟨hi9, h⟩ := h
        refine x_iald hx hb hK hW 3 (hI 3 (by decide)) lR_3 hi9 dX12_text_41 ?_
        obtain ⟨hi10, h⟩ := h
        refine x_iast hx hb hK hW 1 (hI 1 (by decide)) lR_1 hi10 dX12_text_42 (fun σ11 H locs hσ11 hW => ?_)
        have h := h σ11 hσ11
        obtain ⟨v12, hv12⟩ : ∃ y : Int32, y = x1 + (1 : Int32) := ⟨_, rfl⟩
        have h := h v12 hv12
        refine lv_iinc (v := v12) (lv' := [(1, .int v12), (0, .ref (ad 0))]) hx hb dX12_text_43 hl (k := 1) rfl (by rw [hv12]; rfl) (by decide) rfl (fun ls hl => ?_)
        refine lv_goto (tgt := 14) hx hb dX12_text_46 (by decide) ?_
        exact hk14 v12 _ _ _ _ hW (lv_sub hl [1, 0] rfl) h
  have main : ∀ (H : Heap) (locs : List Loc) (ls : Array Slot), xW D KA layR stR ad ids (xA ad ids s.heap.size) s.heap σ H locs → lv_has ls 2 [(0, .ref (ad 0))] → W p l e rmX12_text s m args below meth c H locs 0 0 Q (F0 m 0 ls []) := by
    intro H locs ls hW hl
    unfold wX12_text at h
    refine lv_aload_n hx hb dX12_text_0 rfl (lv_at hl 0 rfl) ?_
    refine xgX12_3 hx hb hts hown hK hW 0 hcX12_text_X12 (hI 0 (by decide)) lR_0 (hts _ hwX12_text_2) dX12_text_1 ?_
    refine lv_bipush (v := 6) hx hb dX12_text_4 (by decide) ?_
    refine lv_icmp_ne (tgt := 12) hx hb dX12_text_6 (by decide) (fun c1001 => ?_) (fun c1001 => ?_)
    · have h := h.1 c1001
      refine lv_iconst (v := 0) hx hb dX12_text_12 (by decide) ?_
      refine lv_istore_n (lv' := [(1, .int (0 : Int32)), (0, .ref (ad 0))]) hx hb dX12_text_13 rfl hl (by decide) rfl (fun ls hl => ?_)
      obtain ⟨n, h⟩ := h
      exact blk14    n (0 : Int32) _ _ _ _ hW (lv_sub hl [1, 0] rfl) h
    · have h := h.2 c1001
      refine lv_bipush (v := (-4)) hx hb dX12_text_9 (by decide) ?_
      exact kr _ _ _ _ _ _ hW h dX12_text_11
  exact main _ _ _ hW hl
theorem hwX12_throwsOn_0 : (.fieldLink RX12 68 "FortyBeltsModel" "isOn" "[I" : Cond) ∈ wsX12_throwsOn := (List.mem_cons_of_mem _ (List.mem_append_left _ (List.mem_of_getElem? (i := 0) rfl)))
theorem hcX12_throwsOn_X12 : ∀ w ∈ wsX120, w ∈ wsX12_throwsOn := fun _ h => (List.mem_cons_of_mem _ (List.mem_append_right _ h))
set_option maxHeartbeats 4000000 in
set_option maxRecDepth 100000 in
theorem J_X12_throwsOn {D : va_G} {KA : Nat → ClassId} {zs : ZS} {ad : Nat → Nat} {ids : List Nat} {sz : Nat} (l : Launch) (hI : ∀ c, c < 35 → c ∈ ids) {a1 : Int32} {a2 : Int32}  {σ : St} {post : Int32 → St → Prop} (h : wX12_throwsOn  a1 a2 σ post) : Met l yX12_throwsOn wsX12_throwsOn rmX12_throwsOn (va_Pc [.ref (ad 0), .int a1, .int a2] (xIn D KA zs layR stR ad ids sz σ)) (va_Qi post (xOut D KA layR stR ad ids) (xA ad ids sz)) 0 0 (xA ad ids sz) := by
  refine Met.ofW (cc := cX12_throwsOn) (maxL := 4) (ret := (some .int)) (by decide) rfl ?_
  intro p e s m args below meth c s₁ B hml hv
  obtain ⟨hav, hsz, hK, hZ, hP, hD⟩ := hv
  have hx := B.exec
  have hb := B.bytes
  have hr := B.returns
  have hts := atoms_spec (ws := wsX12_throwsOn) B.pre
  have hown : s.vm.findClass RX12 = some m.cls := findClass_of_methodNamed B.named
  have hlocks := B.notSynchronized
  subst hsz
  have hA : ∀ q : Nat, s.heap.size ≤ q → xA ad ids s.heap.size q := fun q h => Or.inr h
  have hW : xW D KA layR stR ad ids (xA ad ids s.heap.size) s.heap σ s.heap [] := ⟨hP, xA_D (D := D) hD, va_S.rf⟩
  have kr : ∀ (v : Int32) (σ : St) (H : Heap) (locs : List Loc) (ls : Array Slot) (pc : Nat), xW D KA layR stR ad ids (xA ad ids s.heap.size) s.heap σ H locs → post v σ → decode cX12_throwsOn pc = .ok (.ireturn, 1) → W p l e rmX12_throwsOn s m args below meth c H locs 0 0 (MQ below (va_Qi post (xOut D KA layR stR ad ids) (xA ad ids s.heap.size)) args s 0 0 (xA ad ids s.heap.size)) (F0 m pc ls [.int v]) := fun v σ H locs ls pc hW h hd => x_iret hx hb hr hlocks hW h hd
  have hl := lv_entry ([.ref (ad 0), .int a1, .int a2]) (n := 4) (Nat.le_of_ble_eq_true rfl)
  rw [show entryFrame m args 4 = entryFrame m ([.ref (ad 0), .int a1, .int a2] : List Value).toArray 4 from by rw [hav]]
  rw [lg_entry_eq]
  generalize (lg_sl ([.ref (ad 0), .int a1, .int a2]) ++ List.replicate (4 - (lg_sl ([.ref (ad 0), .int a1, .int a2])).length) Slot.unset).toArray = ls at hl ⊢
  have hl : lv_has ls 4 [(0, .ref (ad 0)), (1, .int a1), (2, .int a2)] := hl
  show W p l e rmX12_throwsOn s m args below meth c s.heap [] 0 0 _ _
  generalize MQ below (va_Qi post (xOut D KA layR stR ad ids) (xA ad ids s.heap.size)) args s 0 0 (xA ad ids s.heap.size) = Q at kr ⊢
  have blk18 : ∀ (σ : St) (H : Heap) (locs : List Loc) (ls : Array Slot), xW D KA layR stR ad ids (xA ad ids s.heap.size) s.heap σ H locs → lv_has ls 4 [] → wX12_throwsOn_18 post  σ → W p l e rmX12_throwsOn s m args below meth c H locs 0 0 Q (F0 m 18 ls []) := by
    intro    σ H locs ls hW hl h
    unfold wX12_throwsOn_18 at h
    refine lv_bipush (v := (-2)) hx hb dX12_throwsOn_18 (by decide) ?_
    exact kr _ _ _ _ _ _ hW h dX12_throwsOn_20
  have main : ∀ (H : Heap) (locs : List Loc) (ls : Array Slot), xW D KA layR stR ad ids (xA ad ids s.heap.size) s.heap σ H locs → lv_has ls 4 [(0, .ref (ad 0)), (1, .int a1), (2, .int a2)] → W p l e rmX12_throwsOn s m args below meth c H locs 0 0 Q (F0 m 0 ls []) := by
    intro H locs ls hW hl
    unfold wX12_throwsOn at h
    refine lv_aload_n hx hb dX12_throwsOn_0 rfl (lv_at hl 0 rfl) ?_
    refine lv_iload_n hx hb dX12_throwsOn_1 rfl (lv_at hl 1 rfl) ?_
    refine x_calli (va_runV (As := [.int a1]) (rest := []) ⟨hx, hb, hml, hown, hts⟩ (J_X12_isBelt l hI h) (cwV 1 hts gX12_throwsOn_X12_isBelt rfl rfl rfl hdV_X12_isBelt ⟨Nat.le_of_ble_eq_true rfl, Nat.le_of_ble_eq_true rfl⟩) (x_preV (ci := 12) hK hZ hA hW (hI 0 (by decide)) lR_0 rfl) rfl rfl hl.1 rfl (lv_room (Nat.le_of_ble_eq_true rfl)) dX12_throwsOn_2 ⟨Nat.zero_le _, Nat.zero_le _⟩) hW hA (fun r1002 σ1001 H locs h hW => ?_)
    try dsimp only at h
    refine lv_if_eq (tgt := 18) hx hb dX12_throwsOn_5 (by decide) (fun c1003 => ?_) (fun c1003 => ?_)
    · have h := h.1 c1003
      exact blk18    _ _ _ _ hW (lv_sub hl [] rfl) h
    · have h := h.2 c1003
      refine lv_iload_n hx hb dX12_throwsOn_8 rfl (lv_at hl 2 rfl) ?_
      refine lv_i2l hx hb dX12_throwsOn_9 rfl ?_
      refine lv_lconst (v := 0) hx hb dX12_throwsOn_10 (by decide) ?_
      refine lv_lconst (v := 1) hx hb dX12_throwsOn_11 (by decide) ?_
      refine x_calli (va_runS (As := [.long (a2.toInt64), .long (0 : Int64), .long (1 : Int64)]) (rest := []) ⟨hx, hb, hml, hown, hts⟩ (J_X12_in l hI h) (va_cwS 3 hts gX12_throwsOn_X12_in rfl rfl rfl hdS_X12_in ⟨Nat.le_of_ble_eq_true rfl, Nat.le_of_ble_eq_true rfl⟩) (x_preS hK hZ hA hW) rfl rfl hl.1 rfl (lv_room (Nat.le_of_ble_eq_true rfl)) dX12_throwsOn_12 ⟨Nat.zero_le _, Nat.zero_le _⟩) hW hA (fun r1005 σ1004 H locs h hW => ?_)
      try dsimp only at h
      refine lv_if_ne (tgt := 21) hx hb dX12_throwsOn_15 (by decide) (fun c1006 => ?_) (fun c1006 => ?_)
      · have h := h.1 c1006
        refine lv_aload_n hx hb dX12_throwsOn_21 rfl (lv_at hl 0 rfl) ?_
        refine xgX12_27r hx hb hts hown hK hW 0 hcX12_throwsOn_X12 (hI 0 (by decide)) lR_0 (hts _ hwX12_throwsOn_0) (sR_0_27 _) dX12_throwsOn_22 ?_
        refine lv_iload_n hx hb dX12_throwsOn_25 rfl (lv_at hl 1 rfl) ?_
        obtain ⟨hi1007, h⟩ := h
        refine x_iald hx hb hK hW 19 (hI 19 (by decide)) lR_19 hi1007 dX12_throwsOn_26 ?_
        refine lv_topi (fun v1008 hv1008 => ?_)
        have h := h v1008 hv1008
        refine lv_istore_n (lv' := [(3, .int v1008), (0, .ref (ad 0)), (1, .int a1), (2, .int a2)]) hx hb dX12_throwsOn_27 rfl hl (by decide) rfl (fun ls hl => ?_)
        refine lv_aload_n hx hb dX12_throwsOn_28 rfl (lv_at hl 1 rfl) ?_
        refine xgX12_27r hx hb hts hown hK hW 0 hcX12_throwsOn_X12 (hI 0 (by decide)) lR_0 (hts _ hwX12_throwsOn_0) (sR_0_27 _) dX12_throwsOn_29 ?_
        refine lv_iload_n hx hb dX12_throwsOn_32 rfl (lv_at hl 2 rfl) ?_
        refine lv_iload_n hx hb dX12_throwsOn_33 rfl (lv_at hl 3 rfl) ?_
        refine x_iast hx hb hK hW 19 (hI 19 (by decide)) lR_19 hi1007 dX12_throwsOn_34 (fun σ1010 H locs hσ1010 hW => ?_)
        have h := h σ1010 hσ1010
        refine lv_iload_n hx hb dX12_throwsOn_35 rfl (lv_at hl 0 rfl) ?_
        exact kr _ _ _ _ _ _ hW h dX12_throwsOn_36
      · have h := h.2 c1006
        exact blk18    _ _ _ _ hW (lv_sub hl [] rfl) h
  exact main _ _ _ hW hl
theorem hwX12_told_0 : (.fieldLink RX12 50 "FortyBeltsModel" "kind" "[I" : Cond) ∈ wsX12_told := (List.mem_cons_of_mem _ (List.mem_append_left _ (List.mem_append_left _ (List.mem_of_getElem? (i := 0) rfl))))
theorem hwX12_told_1 : (.fieldLink RX12 53 "FortyBeltsModel" "driver" "[I" : Cond) ∈ wsX12_told := (List.mem_cons_of_mem _ (List.mem_append_left _ (List.mem_append_left _ (List.mem_of_getElem? (i := 1) rfl))))
theorem hwX12_told_2 : (.fieldLink RX12 56 "FortyBeltsModel" "driven" "[I" : Cond) ∈ wsX12_told := (List.mem_cons_of_mem _ (List.mem_append_left _ (List.mem_append_left _ (List.mem_of_getElem? (i := 2) rfl))))
theorem hwX12_told_3 : (.fieldLink RX12 59 "FortyBeltsModel" "drumA" "[I" : Cond) ∈ wsX12_told := (List.mem_cons_of_mem _ (List.mem_append_left _ (List.mem_append_left _ (List.mem_of_getElem? (i := 3) rfl))))
theorem hwX12_told_4 : (.fieldLink RX12 62 "FortyBeltsModel" "drumB" "[I" : Cond) ∈ wsX12_told := (List.mem_cons_of_mem _ (List.mem_append_left _ (List.mem_append_left _ (List.mem_of_getElem? (i := 4) rfl))))
theorem hwX12_told_5 : (.fieldLink RX12 68 "FortyBeltsModel" "isOn" "[I" : Cond) ∈ wsX12_told := (List.mem_cons_of_mem _ (List.mem_append_left _ (List.mem_append_left _ (List.mem_of_getElem? (i := 5) rfl))))
theorem hcX12_told_X12 : ∀ w ∈ wsX120, w ∈ wsX12_told := fun _ h => (List.mem_cons_of_mem _ (List.mem_append_right _ h))
set_option maxHeartbeats 4000000 in
set_option maxRecDepth 100000 in
theorem J_X12_told {D : va_G} {KA : Nat → ClassId} {zs : ZS} {ad : Nat → Nat} {ids : List Nat} {sz : Nat} (l : Launch) (hI : ∀ c, c < 35 → c ∈ ids) {a1 : Int32} {a2 : Int32}  {σ : St} {post : Int32 → St → Prop} (h : wX12_told  a1 a2 σ post) : Met l yX12_told wsX12_told rmX12_told (va_Pc [.ref (ad 0), .int a1, .int a2] (xIn D KA zs layR stR ad ids sz σ)) (va_Qi post (xOut D KA layR stR ad ids) (xA ad ids sz)) 0 0 (xA ad ids sz) := by
  refine Met.ofW (cc := cX12_told) (maxL := 3) (ret := (some .int)) (by decide) rfl ?_
  intro p e s m args below meth c s₁ B hml hv
  obtain ⟨hav, hsz, hK, hZ, hP, hD⟩ := hv
  have hx := B.exec
  have hb := B.bytes
  have hr := B.returns
  have hts := atoms_spec (ws := wsX12_told) B.pre
  have hown : s.vm.findClass RX12 = some m.cls := findClass_of_methodNamed B.named
  have hlocks := B.notSynchronized
  subst hsz
  have hA : ∀ q : Nat, s.heap.size ≤ q → xA ad ids s.heap.size q := fun q h => Or.inr h
  have hW : xW D KA layR stR ad ids (xA ad ids s.heap.size) s.heap σ s.heap [] := ⟨hP, xA_D (D := D) hD, va_S.rf⟩
  have kr : ∀ (v : Int32) (σ : St) (H : Heap) (locs : List Loc) (ls : Array Slot) (pc : Nat), xW D KA layR stR ad ids (xA ad ids s.heap.size) s.heap σ H locs → post v σ → decode cX12_told pc = .ok (.ireturn, 1) → W p l e rmX12_told s m args below meth c H locs 0 0 (MQ below (va_Qi post (xOut D KA layR stR ad ids) (xA ad ids s.heap.size)) args s 0 0 (xA ad ids s.heap.size)) (F0 m pc ls [.int v]) := fun v σ H locs ls pc hW h hd => x_iret hx hb hr hlocks hW h hd
  have hl := lv_entry ([.ref (ad 0), .int a1, .int a2]) (n := 3) (Nat.le_of_ble_eq_true rfl)
  rw [show entryFrame m args 3 = entryFrame m ([.ref (ad 0), .int a1, .int a2] : List Value).toArray 3 from by rw [hav]]
  rw [lg_entry_eq]
  generalize (lg_sl ([.ref (ad 0), .int a1, .int a2]) ++ List.replicate (3 - (lg_sl ([.ref (ad 0), .int a1, .int a2])).length) Slot.unset).toArray = ls at hl ⊢
  have hl : lv_has ls 3 [(0, .ref (ad 0)), (1, .int a1), (2, .int a2)] := hl
  show W p l e rmX12_told s m args below meth c s.heap [] 0 0 _ _
  generalize MQ below (va_Qi post (xOut D KA layR stR ad ids) (xA ad ids s.heap.size)) args s 0 0 (xA ad ids s.heap.size) = Q at kr ⊢
  have blk169 : ∀ (s0 : Int32) (σ : St) (H : Heap) (locs : List Loc) (ls : Array Slot), xW D KA layR stR ad ids (xA ad ids s.heap.size) s.heap σ H locs → lv_has ls 3 [] → wX12_told_169 post s0 σ → W p l e rmX12_told s m args below meth c H locs 0 0 Q (F0 m 169 ls [.int s0]) := by
    intro   s0 σ H locs ls hW hl h
    unfold wX12_told_169 at h
    exact kr _ _ _ _ _ _ hW h dX12_told_169
  have blk137 : ∀ (s0 : Int32) (σ : St) (H : Heap) (locs : List Loc) (ls : Array Slot), xW D KA layR stR ad ids (xA ad ids s.heap.size) s.heap σ H locs → lv_has ls 3 [] → wX12_told_137 post s0 σ → W p l e rmX12_told s m args below meth c H locs 0 0 Q (F0 m 137 ls [.int s0]) := by
    intro   s0 σ H locs ls hW hl h
    unfold wX12_told_137 at h
    exact kr _ _ _ _ _ _ hW h dX12_told_137
  have main : ∀ (H : Heap) (locs : List Loc) (ls : Array Slot), xW D KA layR stR ad ids (xA ad ids s.heap.size) s.heap σ H locs → lv_has ls 3 [(0, .ref (ad 0)), (1, .int a1), (2, .int a2)] → W p l e rmX12_told s m args below meth c H locs 0 0 Q (F0 m 0 ls []) := by
    intro H locs ls hW hl
    unfold wX12_told at h
    refine lv_aload_n hx hb dX12_told_0 rfl (lv_at hl 0 rfl) ?_
    refine lv_iload_n hx hb dX12_told_1 rfl (lv_at hl 1 rfl) ?_
    refine x_calli (va_runV (As := [.int a1]) (rest := []) ⟨hx, hb, hml, hown, hts⟩ (J_X12_isBelt l hI h) (cwV 1 hts gX12_told_X12_isBelt rfl rfl rfl hdV_X12_isBelt ⟨Nat.le_of_ble_eq_true rfl, Nat.le_of_ble_eq_true rfl⟩) (x_preV (ci := 12) hK hZ hA hW (hI 0 (by decide)) lR_0 rfl) rfl rfl hl.1 rfl (lv_room (Nat.le_of_ble_eq_true rfl)) dX12_told_2 ⟨Nat.zero_le _, Nat.zero_le _⟩) hW hA (fun r1002 σ1001 H locs h hW => ?_)
    try dsimp only at h
    refine lv_if_ne (tgt := 11) hx hb dX12_told_5 (by decide) (fun c1003 => ?_) (fun c1003 => ?_)
    · have h := h.1 c1003
      refine lv_aload_n hx hb dX12_told_11 rfl (lv_at hl 0 rfl) ?_
      refine x_callv (va_runV (As := []) (rest := []) ⟨hx, hb, hml, hown, hts⟩ (J_X12_lays l hI h) (cwV 0 hts gX12_told_X12_lays rfl rfl rfl hdV_X12_lays ⟨Nat.le_of_ble_eq_true rfl, Nat.le_of_ble_eq_true rfl⟩) (x_preV (ci := 12) hK hZ hA hW (hI 0 (by decide)) lR_0 rfl) rfl rfl hl.1 rfl (lv_room (Nat.le_of_ble_eq_true rfl)) dX12_told_12 ⟨Nat.zero_le _, Nat.zero_le _⟩) hW hA (fun σ1004 H locs h hW => ?_)
      try dsimp only at h
      refine lv_iload_n hx hb dX12_told_15 rfl (lv_at hl 2 rfl) ?_
      refine lv_topi (fun v1005 hv1005 => ?_)
      have h := h v1005 hv1005
      obtain ⟨hcase, h⟩ := h
      by_cases hc16_0 : v1005 = (0 : Int32)
      · have h := hcase hc16_0
        clear hcase
        refine lv_tableIn (tgt := 80) hx hb dX12_told_16 (by rw [hc16_0] <;> decide) (by rw [hc16_0] <;> decide) (by rw [hc16_0]; rfl) (by decide) ?_
        refine lv_aload_n hx hb dX12_told_80 rfl (lv_at hl 0 rfl) ?_
        refine xgX12_21r hx hb hts hown hK hW 0 hcX12_told_X12 (hI 0 (by decide)) lR_0 (hts _ hwX12_told_0) (sR_0_21 _) dX12_told_81 ?_
        refine lv_iload_n hx hb dX12_told_84 rfl (lv_at hl 1 rfl) ?_
        obtain ⟨hi1006, h⟩ := h
        refine x_iald hx hb hK hW 13 (hI 13 (by decide)) lR_13 hi1006 dX12_told_85 ?_
        exact kr _ _ _ _ _ _ hW h dX12_told_86
      clear hcase
      obtain ⟨hcase, h⟩ := h
      by_cases hc16_1 : v1005 = (1 : Int32)
      · have h := hcase hc16_1
        clear hcase
        refine lv_tableIn (tgt := 87) hx hb dX12_told_16 (by rw [hc16_1] <;> decide) (by rw [hc16_1] <;> decide) (by rw [hc16_1]; rfl) (by decide) ?_
        refine lv_aload_n hx hb dX12_told_87 rfl (lv_at hl 0 rfl) ?_
        refine xgX12_22r hx hb hts hown hK hW 0 hcX12_told_X12 (hI 0 (by decide)) lR_0 (hts _ hwX12_told_1) (sR_0_22 _) dX12_told_88 ?_
        refine lv_iload_n hx hb dX12_told_91 rfl (lv_at hl 1 rfl) ?_
        obtain ⟨hi1007, h⟩ := h
        refine x_iald hx hb hK hW 14 (hI 14 (by decide)) lR_14 hi1007 dX12_told_92 ?_
        exact kr _ _ _ _ _ _ hW h dX12_told_93
      clear hcase
      obtain ⟨hcase, h⟩ := h
      by_cases hc16_2 : v1005 = (2 : Int32)
      · have h := hcase hc16_2
        clear hcase
        refine lv_tableIn (tgt := 94) hx hb dX12_told_16 (by rw [hc16_2] <;> decide) (by rw [hc16_2] <;> decide) (by rw [hc16_2]; rfl) (by decide) ?_
        refine lv_aload_n hx hb dX12_told_94 rfl (lv_at hl 0 rfl) ?_
        refine xgX12_23r hx hb hts hown hK hW 0 hcX12_told_X12 (hI 0 (by decide)) lR_0 (hts _ hwX12_told_2) (sR_0_23 _) dX12_told_95 ?_
        refine lv_iload_n hx hb dX12_told_98 rfl (lv_at hl 1 rfl) ?_
        obtain ⟨hi1008, h⟩ := h
        refine x_iald hx hb hK hW 15 (hI 15 (by decide)) lR_15 hi1008 dX12_told_99 ?_
        exact kr _ _ _ _ _ _ hW h dX12_told_100
      clear hcase
      obtain ⟨hcase, h⟩ := h
      by_cases hc16_3 : v1005 = (3 : Int32)
      · have h := hcase hc16_3
        clear hcase
        refine lv_tableIn (tgt := 101) hx hb dX12_told_16 (by rw [hc16_3] <;> decide) (by rw [hc16_3] <;> decide) (by rw [hc16_3]; rfl) (by decide) ?_
        refine lv_aload_n hx hb dX12_told_101 rfl (lv_at hl 0 rfl) ?_
        refine xgX12_24r hx hb hts hown hK hW 0 hcX12_told_X12 (hI 0 (by decide)) lR_0 (hts _ hwX12_told_3) (sR_0_24 _) dX12_told_102 ?_
        refine lv_iload_n hx hb dX12_told_105 rfl (lv_at hl 1 rfl) ?_
        obtain ⟨hi1009, h⟩ := h
        refine x_iald hx hb hK hW 16 (hI 16 (by decide)) lR_16 hi1009 dX12_told_106 ?_
        exact kr _ _ _ _ _ _ hW h dX12_told_107
      clear hcase
      obtain ⟨hcase, h⟩ := h
      by_cases hc16_4 : v1005 = (4 : Int32)
      · have h := hcase hc16_4
        clear hcase
        refine lv_tableIn (tgt := 108) hx hb dX12_told_16 (by rw [hc16_4] <;> decide) (by rw [hc16_4] <;> decide) (by rw [hc16_4]; rfl) (by decide) ?_
        refine lv_aload_n hx hb dX12_told_108 rfl (lv_at hl 0 rfl) ?_
        refine xgX12_25r hx hb hts hown hK hW 0 hcX12_told_X12 (hI 0 (by decide)) lR_0 (hts _ hwX12_told_4) (sR_0_25 _) dX12_told_109 ?_
        refine lv_iload_n hx hb dX12_told_112 rfl (lv_at hl 1 rfl) ?_
        obtain ⟨hi1010, h⟩ := h
        refine x_iald hx hb hK hW 17 (hI 17 (by decide)) lR_17 hi1010 dX12_told_113 ?_
        exact kr _ _ _ _ _ _ hW h dX12_told_114
      clear hcase
      obtain ⟨hcase, h⟩ := h
      by_cases hc16_5 : v1005 = (5 : Int32)
      · have h := hcase hc16_5
        clear hcase
        refine lv_tableIn (tgt := 115) hx hb dX12_told_16 (by rw [hc16_5] <;> decide) (by rw [hc16_5] <;> decide) (by rw [hc16_5]; rfl) (by decide) ?_
        refine lv_aload_n hx hb dX12_told_115 rfl (lv_at hl 0 rfl) ?_
        refine xgX12_27r hx hb hts hown hK hW 0 hcX12_told_X12 (hI 0 (by decide)) lR_0 (hts _ hwX12_told_5) (sR_0_27 _) dX12_told_116 ?_
        refine lv_iload_n hx hb dX12_told_119 rfl (lv_at hl 1 rfl) ?_
        obtain ⟨hi1011, h⟩ := h
        refine x_iald hx hb hK hW 19 (hI 19 (by decide)) lR_19 hi1011 dX12_told_120 ?_
        exact kr _ _ _ _ _ _ hW h dX12_told_121
      clear hcase
      obtain ⟨hcase, h⟩ := h
      by_cases hc16_6 : v1005 = (6 : Int32)
      · have h := hcase hc16_6
        clear hcase
        refine lv_tableIn (tgt := 122) hx hb dX12_told_16 (by rw [hc16_6] <;> decide) (by rw [hc16_6] <;> decide) (by rw [hc16_6]; rfl) (by decide) ?_
        refine lv_aload_n hx hb dX12_told_122 rfl (lv_at hl 0 rfl) ?_
        refine xgX12_21r hx hb hts hown hK hW 0 hcX12_told_X12 (hI 0 (by decide)) lR_0 (hts _ hwX12_told_0) (sR_0_21 _) dX12_told_123 ?_
        refine lv_iload_n hx hb dX12_told_126 rfl (lv_at hl 1 rfl) ?_
        obtain ⟨hi1012, h⟩ := h
        refine x_iald hx hb hK hW 13 (hI 13 (by decide)) lR_13 hi1012 dX12_told_127 ?_
        refine lv_iconst (v := 1) hx hb dX12_told_128 (by decide) ?_
        refine lv_icmp_ne (tgt := 136) hx hb dX12_told_129 (by decide) (fun c1013 => ?_) (fun c1013 => ?_)
        · have h := h.1 c1013
          refine lv_iconst (v := 1) hx hb dX12_told_136 (by decide) ?_
          exact blk137   (1 : Int32) _ _ _ _ hW (lv_sub hl [] rfl) h
        · have h := h.2 c1013
          refine lv_iconst (v := (-1)) hx hb dX12_told_132 (by decide) ?_
          refine lv_goto (tgt := 137) hx hb dX12_told_133 (by decide) ?_
          exact blk137   (-1 : Int32) _ _ _ _ hW (lv_sub hl [] rfl) h
      clear hcase
      obtain ⟨hcase, h⟩ := h
      by_cases hc16_7 : v1005 = (7 : Int32)
      · have h := hcase hc16_7
        clear hcase
        refine lv_tableIn (tgt := 138) hx hb dX12_told_16 (by rw [hc16_7] <;> decide) (by rw [hc16_7] <;> decide) (by rw [hc16_7]; rfl) (by decide) ?_
        refine lv_aload_n hx hb dX12_told_138 rfl (lv_at hl 0 rfl) ?_
        refine lv_iload_n hx hb dX12_told_139 rfl (lv_at hl 1 rfl) ?_
        refine x_calli (va_runV (As := [.int a1]) (rest := []) ⟨hx, hb, hml, hown, hts⟩ (J_X12_wrapOf l hI h) (cwV 1 hts gX12_told_X12_wrapOf rfl rfl rfl hdV_X12_wrapOf ⟨Nat.le_of_ble_eq_true rfl, Nat.le_of_ble_eq_true rfl⟩) (x_preV (ci := 12) hK hZ hA hW (hI 0 (by decide)) lR_0 rfl) rfl rfl hl.1 rfl (lv_room (Nat.le_of_ble_eq_true rfl)) dX12_told_140 ⟨Nat.zero_le _, Nat.zero_le _⟩) hW hA (fun r1015 σ1014 H locs h hW => ?_)
        try dsimp only at h
        exact kr _ _ _ _ _ _ hW h dX12_told_143
      clear hcase
      obtain ⟨hcase, h⟩ := h
      by_cases hc16_8 : v1005 = (8 : Int32)
      · have h := hcase hc16_8
        clear hcase
        refine lv_tableIn (tgt := 144) hx hb dX12_told_16 (by rw [hc16_8] <;> decide) (by rw [hc16_8] <;> decide) (by rw [hc16_8]; rfl) (by decide) ?_
        refine lv_aload_n hx hb dX12_told_144 rfl (lv_at hl 0 rfl) ?_
        refine lv_iload_n hx hb dX12_told_145 rfl (lv_at hl 1 rfl) ?_
        refine x_calli (va_runV (As := [.int a1]) (rest := []) ⟨hx, hb, hml, hown, hts⟩ (J_X12_longOf l hI h) (cwV 1 hts gX12_told_X12_longOf rfl rfl rfl hdV_X12_longOf ⟨Nat.le_of_ble_eq_true rfl, Nat.le_of_ble_eq_true rfl⟩) (x_preV (ci := 12) hK hZ hA hW (hI 0 (by decide)) lR_0 rfl) rfl rfl hl.1 rfl (lv_room (Nat.le_of_ble_eq_true rfl)) dX12_told_146 ⟨Nat.zero_le _, Nat.zero_le _⟩) hW hA (fun r1017 σ1016 H locs h hW => ?_)
        try dsimp only at h
        exact kr _ _ _ _ _ _ hW h dX12_told_149
      clear hcase
      obtain ⟨hcase, h⟩ := h
      by_cases hc16_9 : v1005 = (9 : Int32)
      · have h := hcase hc16_9
        clear hcase
        refine lv_tableIn (tgt := 150) hx hb dX12_told_16 (by rw [hc16_9] <;> decide) (by rw [hc16_9] <;> decide) (by rw [hc16_9]; rfl) (by decide) ?_
        refine lv_aload_n hx hb dX12_told_150 rfl (lv_at hl 0 rfl) ?_
        refine lv_iload_n hx hb dX12_told_151 rfl (lv_at hl 1 rfl) ?_
        refine x_calli (va_runV (As := [.int a1]) (rest := []) ⟨hx, hb, hml, hown, hts⟩ (J_X12_pullOf l hI h) (cwV 1 hts gX12_told_X12_pullOf rfl rfl rfl hdV_X12_pullOf ⟨Nat.le_of_ble_eq_true rfl, Nat.le_of_ble_eq_true rfl⟩) (x_preV (ci := 12) hK hZ hA hW (hI 0 (by decide)) lR_0 rfl) rfl rfl hl.1 rfl (lv_room (Nat.le_of_ble_eq_true rfl)) dX12_told_152 ⟨Nat.zero_le _, Nat.zero_le _⟩) hW hA (fun r1019 σ1018 H locs h hW => ?_)
        try dsimp only at h
        exact kr _ _ _ _ _ _ hW h dX12_told_155
      clear hcase
      obtain ⟨hcase, h⟩ := h
      by_cases hc16_10 : v1005 = (10 : Int32)
      · have h := hcase hc16_10
        clear hcase
        refine lv_tableIn (tgt := 156) hx hb dX12_told_16 (by rw [hc16_10] <;> decide) (by rw [hc16_10] <;> decide) (by rw [hc16_10]; rfl) (by decide) ?_
        refine lv_aload_n hx hb dX12_told_156 rfl (lv_at hl 0 rfl) ?_
        refine lv_iload_n hx hb dX12_told_157 rfl (lv_at hl 1 rfl) ?_
        refine x_calli (va_runV (As := [.int a1]) (rest := []) ⟨hx, hb, hml, hown, hts⟩ (J_X12_slips l hI h) (cwV 1 hts gX12_told_X12_slips rfl rfl rfl hdV_X12_slips ⟨Nat.le_of_ble_eq_true rfl, Nat.le_of_ble_eq_true rfl⟩) (x_preV (ci := 12) hK hZ hA hW (hI 0 (by decide)) lR_0 rfl) rfl rfl hl.1 rfl (lv_room (Nat.le_of_ble_eq_true rfl)) dX12_told_158 ⟨Nat.zero_le _, Nat.zero_le _⟩) hW hA (fun r1021 σ1020 H locs h hW => ?_)
        try dsimp only at h
        refine lv_if_eq (tgt := 168) hx hb dX12_told_161 (by decide) (fun c1022 => ?_) (fun c1022 => ?_)
        · have h := h.1 c1022
          refine lv_iconst (v := 0) hx hb dX12_told_168 (by decide) ?_
          exact blk169   (0 : Int32) _ _ _ _ hW (lv_sub hl [] rfl) h
        · have h := h.2 c1022
          refine lv_iconst (v := 1) hx hb dX12_told_164 (by decide) ?_
          refine lv_goto (tgt := 169) hx hb dX12_told_165 (by decide) ?_
          exact blk169   (1 : Int32) _ _ _ _ hW (lv_sub hl [] rfl) h
      clear hcase
      obtain ⟨hcase, h⟩ := h
      by_cases hc16_11 : v1005 = (11 : Int32)
      · have h := hcase hc16_11
        clear hcase
        refine lv_tableIn (tgt := 170) hx hb dX12_told_16 (by rw [hc16_11] <;> decide) (by rw [hc16_11] <;> decide) (by rw [hc16_11]; rfl) (by decide) ?_
        refine lv_aload_n hx hb dX12_told_170 rfl (lv_at hl 0 rfl) ?_
        refine lv_iload_n hx hb dX12_told_171 rfl (lv_at hl 1 rfl) ?_
        refine x_calli (va_runV (As := [.int a1]) (rest := []) ⟨hx, hb, hml, hown, hts⟩ (J_X12_wearOf l hI h) (cwV 1 hts gX12_told_X12_wearOf rfl rfl rfl hdV_X12_wearOf ⟨Nat.le_of_ble_eq_true rfl, Nat.le_of_ble_eq_true rfl⟩) (x_preV (ci := 12) hK hZ hA hW (hI 0 (by decide)) lR_0 rfl) rfl rfl hl.1 rfl (lv_room (Nat.le_of_ble_eq_true rfl)) dX12_told_172 ⟨Nat.zero_le _, Nat.zero_le _⟩) hW hA (fun r1024 σ1023 H locs h hW => ?_)
        try dsimp only at h
        exact kr _ _ _ _ _ _ hW h dX12_told_175
      clear hcase
      have h := h ⟨hc16_0, hc16_1, hc16_2, hc16_3, hc16_4, hc16_5, hc16_6, hc16_7, hc16_8, hc16_9, hc16_10, hc16_11⟩
      refine lv_tableOut (tgt := 176) hx hb dX12_told_16 (tsw_out v1005 (0) (11) (fun k h1 h2 => ?_)) (by decide) ?_
      · rcases (show k = 0 ∨ k = 1 ∨ k = 2 ∨ k = 3 ∨ k = 4 ∨ k = 5 ∨ k = 6 ∨ k = 7 ∨ k = 8 ∨ k = 9 ∨ k = 10 ∨ k = 11 by omega) with rfl | rfl | rfl | rfl | rfl | rfl | rfl | rfl | rfl | rfl | rfl | rfl
        · exact hc16_0
        · exact hc16_1
        · exact hc16_2
        · exact hc16_3
        · exact hc16_4
        · exact hc16_5
        · exact hc16_6
        · exact hc16_7
        · exact hc16_8
        · exact hc16_9
        · exact hc16_10
        · exact hc16_11
      refine lv_bipush (v := (-5)) hx hb dX12_told_176 (by decide) ?_
      exact kr _ _ _ _ _ _ hW h dX12_told_178
    · have h := h.2 c1003
      refine lv_bipush (v := (-5)) hx hb dX12_told_8 (by decide) ?_
      exact kr _ _ _ _ _ _ hW h dX12_told_10
  exact main _ _ _ hW hl
theorem hwX12_turns_0 : (.constantLong RX12 261 (-4611686018427387904) : Cond) ∈ wsX12_turns := (List.mem_cons_of_mem _ (List.mem_append_left _ (List.mem_append_left _ (List.mem_of_getElem? (i := 1) rfl))))
theorem hwX12_turns_1 : (.constantLong RX12 259 (4) : Cond) ∈ wsX12_turns := (List.mem_cons_of_mem _ (List.mem_append_left _ (List.mem_append_left _ (List.mem_of_getElem? (i := 0) rfl))))
theorem hwX12_turns_2 : (.fieldLink RX12 74 "FortyBeltsModel" "above" "[J" : Cond) ∈ wsX12_turns := (List.mem_cons_of_mem _ (List.mem_append_left _ (List.mem_append_left _ (List.mem_of_getElem? (i := 2) rfl))))
theorem hwX12_turns_3 : (.fieldLink RX12 78 "FortyBeltsModel" "below" "[J" : Cond) ∈ wsX12_turns := (List.mem_cons_of_mem _ (List.mem_append_left _ (List.mem_append_left _ (List.mem_of_getElem? (i := 3) rfl))))
theorem hwX12_turns_4 : (.fieldLink RX12 81 "FortyBeltsModel" "ways" "[I" : Cond) ∈ wsX12_turns := (List.mem_cons_of_mem _ (List.mem_append_left _ (List.mem_append_left _ (List.mem_of_getElem? (i := 4) rfl))))
theorem hwX12_turns_5 : (.fieldLink RX12 26 "FortyBeltsModel" "bends" "[I" : Cond) ∈ wsX12_turns := (List.mem_cons_of_mem _ (List.mem_append_left _ (List.mem_append_left _ (List.mem_of_getElem? (i := 5) rfl))))
theorem hcX12_turns_X12 : ∀ w ∈ wsX120, w ∈ wsX12_turns := fun _ h => (List.mem_cons_of_mem _ (List.mem_append_right _ h))
set_option maxHeartbeats 4000000 in
set_option maxRecDepth 100000 in
theorem J_X12_turns {D : va_G} {KA : Nat → ClassId} {zs : ZS} {ad : Nat → Nat} {ids : List Nat} {sz : Nat} (l : Launch) (hI : ∀ c, c < 35 → c ∈ ids) {a1 : Int32} {a2 : Int32}  {σ : St} {post : Int64 → St → Prop} (h : wX12_turns  a1 a2 σ post) : Met l yX12_turns wsX12_turns rmX12_turns (va_Pc [.ref (ad 0), .int a1, .int a2] (xIn D KA zs layR stR ad ids sz σ)) (va_Ql post (xOut D KA layR stR ad ids) (xA ad ids sz)) 0 0 (xA ad ids sz) := by
  refine Met.ofW (cc := cX12_turns) (maxL := 3) (ret := (some .long)) (by decide) rfl ?_
  intro p e s m args below meth c s₁ B hml hv
  obtain ⟨hav, hsz, hK, hZ, hP, hD⟩ := hv
  have hx := B.exec
  have hb := B.bytes
  have hr := B.returns
  have hts := atoms_spec (ws := wsX12_turns) B.pre
  have hown : s.vm.findClass RX12 = some m.cls := findClass_of_methodNamed B.named
  have hlocks := B.notSynchronized
  subst hsz
  have hA : ∀ q : Nat, s.heap.size ≤ q → xA ad ids s.heap.size q := fun q h => Or.inr h
  have hW : xW D KA layR stR ad ids (xA ad ids s.heap.size) s.heap σ s.heap [] := ⟨hP, xA_D (D := D) hD, va_S.rf⟩
  have kr : ∀ (v : Int64) (σ : St) (H : Heap) (locs : List Loc) (ls : Array Slot) (pc : Nat), xW D KA layR stR ad ids (xA ad ids s.heap.size) s.heap σ H locs → post v σ → decode cX12_turns pc = .ok (.lreturn, 1) → W p l e rmX12_turns s m args below meth c H locs 0 0 (MQ below (va_Ql post (xOut D KA layR stR ad ids) (xA ad ids s.heap.size)) args s 0 0 (xA ad ids s.heap.size)) (F0 m pc ls [.long v]) := fun v σ H locs ls pc hW h hd => x_lret hx hb hr hlocks hW h hd
  have hl := lv_entry ([.ref (ad 0), .int a1, .int a2]) (n := 3) (Nat.le_of_ble_eq_true rfl)
  rw [show entryFrame m args 3 = entryFrame m ([.ref (ad 0), .int a1, .int a2] : List Value).toArray 3 from by rw [hav]]
  rw [lg_entry_eq]
  generalize (lg_sl ([.ref (ad 0), .int a1, .int a2]) ++ List.replicate (3 - (lg_sl ([.ref (ad 0), .int a1, .int a2])).length) Slot.unset).toArray = ls at hl ⊢
  have hl : lv_has ls 3 [(0, .ref (ad 0)), (1, .int a1), (2, .int a2)] := hl
  show W p l e rmX12_turns s m args below meth c s.heap [] 0 0 _ _
  generalize MQ below (va_Ql post (xOut D KA layR stR ad ids) (xA ad ids s.heap.size)) args s 0 0 (xA ad ids s.heap.size) = Q at kr ⊢
  have blk108 : ∀ (s0 : Int64) (σ : St) (H : Heap) (locs : List Loc) (ls : Array Slot), xW D KA layR stR ad ids (xA ad ids s.heap.size) s.heap σ H locs → lv_has ls 3 [] → wX12_turns_108 post s0 σ → W p l e rmX12_turns s m args below meth c H locs 0 0 Q (F0 m 108 ls [.long s0]) := by
    intro   s0 σ H locs ls hW hl h
    unfold wX12_turns_108 at h
    exact kr _ _ _ _ _ _ hW h dX12_turns_108
  have blk20 : ∀ (σ : St) (H : Heap) (locs : List Loc) (ls : Array Slot), xW D KA layR stR ad ids (xA ad ids s.heap.size) s.heap σ H locs → lv_has ls 3 [] → wX12_turns_20 post  σ → W p l e rmX12_turns s m args below meth c H locs 0 0 Q (F0 m 20 ls []) := by
    intro    σ H locs ls hW hl h
    unfold wX12_turns_20 at h
    refine lv_ldc2 hx hb hown (hts _ hwX12_turns_0) dX12_turns_20 ?_
    exact kr _ _ _ _ _ _ hW h dX12_turns_23
  have main : ∀ (H : Heap) (locs : List Loc) (ls : Array Slot), xW D KA layR stR ad ids (xA ad ids s.heap.size) s.heap σ H locs → lv_has ls 3 [(0, .ref (ad 0)), (1, .int a1), (2, .int a2)] → W p l e rmX12_turns s m args below meth c H locs 0 0 Q (F0 m 0 ls []) := by
    intro H locs ls hW hl
    unfold wX12_turns at h
    refine lv_aload_n hx hb dX12_turns_0 rfl (lv_at hl 0 rfl) ?_
    refine lv_iload_n hx hb dX12_turns_1 rfl (lv_at hl 1 rfl) ?_
    refine x_calli (va_runV (As := [.int a1]) (rest := []) ⟨hx, hb, hml, hown, hts⟩ (J_X12_isShaft l hI h) (cwV 1 hts gX12_turns_X12_isShaft rfl rfl rfl hdV_X12_isShaft ⟨Nat.le_of_ble_eq_true rfl, Nat.le_of_ble_eq_true rfl⟩) (x_preV (ci := 12) hK hZ hA hW (hI 0 (by decide)) lR_0 rfl) rfl rfl hl.1 rfl (lv_room (Nat.le_of_ble_eq_true rfl)) dX12_turns_2 ⟨Nat.zero_le _, Nat.zero_le _⟩) hW hA (fun r1002 σ1001 H locs h hW => ?_)
    try dsimp only at h
    refine lv_if_eq (tgt := 20) hx hb dX12_turns_5 (by decide) (fun c1003 => ?_) (fun c1003 => ?_)
    · have h := h.1 c1003
      exact blk20    _ _ _ _ hW (lv_sub hl [] rfl) h
    · have h := h.2 c1003
      refine lv_iload_n hx hb dX12_turns_8 rfl (lv_at hl 2 rfl) ?_
      refine lv_i2l hx hb dX12_turns_9 rfl ?_
      refine lv_lconst (v := 0) hx hb dX12_turns_10 (by decide) ?_
      refine lv_ldc2 hx hb hown (hts _ hwX12_turns_1) dX12_turns_11 ?_
      refine x_calli (va_runS (As := [.long (a2.toInt64), .long (0 : Int64), .long (4 : Int64)]) (rest := []) ⟨hx, hb, hml, hown, hts⟩ (J_X12_in l hI h) (va_cwS 3 hts gX12_turns_X12_in rfl rfl rfl hdS_X12_in ⟨Nat.le_of_ble_eq_true rfl, Nat.le_of_ble_eq_true rfl⟩) (x_preS hK hZ hA hW) rfl rfl hl.1 rfl (lv_room (Nat.le_of_ble_eq_true rfl)) dX12_turns_14 ⟨Nat.zero_le _, Nat.zero_le _⟩) hW hA (fun r1005 σ1004 H locs h hW => ?_)
      try dsimp only at h
      refine lv_if_ne (tgt := 24) hx hb dX12_turns_17 (by decide) (fun c1006 => ?_) (fun c1006 => ?_)
      · have h := h.1 c1006
        refine lv_aload_n hx hb dX12_turns_24 rfl (lv_at hl 0 rfl) ?_
        refine x_callv (va_runV (As := []) (rest := []) ⟨hx, hb, hml, hown, hts⟩ (J_X12_lays l hI h) (cwV 0 hts gX12_turns_X12_lays rfl rfl rfl hdV_X12_lays ⟨Nat.le_of_ble_eq_true rfl, Nat.le_of_ble_eq_true rfl⟩) (x_preV (ci := 12) hK hZ hA hW (hI 0 (by decide)) lR_0 rfl) rfl rfl hl.1 rfl (lv_room (Nat.le_of_ble_eq_true rfl)) dX12_turns_25 ⟨Nat.zero_le _, Nat.zero_le _⟩) hW hA (fun σ1007 H locs h hW => ?_)
        try dsimp only at h
        refine lv_iload_n hx hb dX12_turns_28 rfl (lv_at hl 2 rfl) ?_
        refine lv_topi (fun v1008 hv1008 => ?_)
        have h := h v1008 hv1008
        obtain ⟨hcase, h⟩ := h
        by_cases hc29_0 : v1008 = (0 : Int32)
        · have h := hcase hc29_0
          clear hcase
          refine lv_tableIn (tgt := 60) hx hb dX12_turns_29 (by rw [hc29_0] <;> decide) (by rw [hc29_0] <;> decide) (by rw [hc29_0]; rfl) (by decide) ?_
          refine lv_aload_n hx hb dX12_turns_60 rfl (lv_at hl 0 rfl) ?_
          refine xgX12_31r hx hb hts hown hK hW 0 hcX12_turns_X12 (hI 0 (by decide)) lR_0 (hts _ hwX12_turns_2) (sR_0_31 _) dX12_turns_61 ?_
          refine lv_iload_n hx hb dX12_turns_64 rfl (lv_at hl 1 rfl) ?_
          obtain ⟨hi1009, h⟩ := h
          refine x_lald hx hb hK hW 20 (hI 20 (by decide)) lR_20 hi1009 dX12_turns_65 ?_
          exact kr _ _ _ _ _ _ hW h dX12_turns_66
        clear hcase
        obtain ⟨hcase, h⟩ := h
        by_cases hc29_1 : v1008 = (1 : Int32)
        · have h := hcase hc29_1
          clear hcase
          refine lv_tableIn (tgt := 67) hx hb dX12_turns_29 (by rw [hc29_1] <;> decide) (by rw [hc29_1] <;> decide) (by rw [hc29_1]; rfl) (by decide) ?_
          refine lv_aload_n hx hb dX12_turns_67 rfl (lv_at hl 0 rfl) ?_
          refine xgX12_32r hx hb hts hown hK hW 0 hcX12_turns_X12 (hI 0 (by decide)) lR_0 (hts _ hwX12_turns_3) (sR_0_32 _) dX12_turns_68 ?_
          refine lv_iload_n hx hb dX12_turns_71 rfl (lv_at hl 1 rfl) ?_
          obtain ⟨hi1010, h⟩ := h
          refine x_lald hx hb hK hW 21 (hI 21 (by decide)) lR_21 hi1010 dX12_turns_72 ?_
          exact kr _ _ _ _ _ _ hW h dX12_turns_73
        clear hcase
        obtain ⟨hcase, h⟩ := h
        by_cases hc29_2 : v1008 = (2 : Int32)
        · have h := hcase hc29_2
          clear hcase
          refine lv_tableIn (tgt := 74) hx hb dX12_turns_29 (by rw [hc29_2] <;> decide) (by rw [hc29_2] <;> decide) (by rw [hc29_2]; rfl) (by decide) ?_
          refine lv_aload_n hx hb dX12_turns_74 rfl (lv_at hl 0 rfl) ?_
          refine xgX12_33r hx hb hts hown hK hW 0 hcX12_turns_X12 (hI 0 (by decide)) lR_0 (hts _ hwX12_turns_4) (sR_0_33 _) dX12_turns_75 ?_
          refine lv_iload_n hx hb dX12_turns_78 rfl (lv_at hl 1 rfl) ?_
          obtain ⟨hi1011, h⟩ := h
          refine x_iald hx hb hK hW 22 (hI 22 (by decide)) lR_22 hi1011 dX12_turns_79 ?_
          refine lv_i2l hx hb dX12_turns_80 rfl ?_
          exact kr _ _ _ _ _ _ hW h dX12_turns_81
        clear hcase
        obtain ⟨hcase, h⟩ := h
        by_cases hc29_3 : v1008 = (3 : Int32)
        · have h := hcase hc29_3
          clear hcase
          refine lv_tableIn (tgt := 82) hx hb dX12_turns_29 (by rw [hc29_3] <;> decide) (by rw [hc29_3] <;> decide) (by rw [hc29_3]; rfl) (by decide) ?_
          refine lv_aload_n hx hb dX12_turns_82 rfl (lv_at hl 0 rfl) ?_
          refine lv_iload_n hx hb dX12_turns_83 rfl (lv_at hl 1 rfl) ?_
          refine x_calli (va_runV (As := [.int a1]) (rest := []) ⟨hx, hb, hml, hown, hts⟩ (J_X12_pullsAt l hI h) (cwV 1 hts gX12_turns_X12_pullsAt rfl rfl rfl hdV_X12_pullsAt ⟨Nat.le_of_ble_eq_true rfl, Nat.le_of_ble_eq_true rfl⟩) (x_preV (ci := 12) hK hZ hA hW (hI 0 (by decide)) lR_0 rfl) rfl rfl hl.1 rfl (lv_room (Nat.le_of_ble_eq_true rfl)) dX12_turns_84 ⟨Nat.zero_le _, Nat.zero_le _⟩) hW hA (fun r1013 σ1012 H locs h hW => ?_)
          try dsimp only at h
          refine lv_i2l hx hb dX12_turns_87 rfl ?_
          exact kr _ _ _ _ _ _ hW h dX12_turns_88
        clear hcase
        have h := h ⟨hc29_0, hc29_1, hc29_2, hc29_3⟩
        refine lv_tableOut (tgt := 89) hx hb dX12_turns_29 (tsw_out v1008 (0) (3) (fun k h1 h2 => ?_)) (by decide) ?_
        · rcases (show k = 0 ∨ k = 1 ∨ k = 2 ∨ k = 3 by omega) with rfl | rfl | rfl | rfl
          · exact hc29_0
          · exact hc29_1
          · exact hc29_2
          · exact hc29_3
        refine lv_aload_n hx hb dX12_turns_89 rfl (lv_at hl 0 rfl) ?_
        refine lv_iload_n hx hb dX12_turns_90 rfl (lv_at hl 1 rfl) ?_
        refine x_calli (va_runV (As := [.int a1]) (rest := []) ⟨hx, hb, hml, hown, hts⟩ (J_X12_pullsAt l hI h) (cwV 1 hts gX12_turns_X12_pullsAt rfl rfl rfl hdV_X12_pullsAt ⟨Nat.le_of_ble_eq_true rfl, Nat.le_of_ble_eq_true rfl⟩) (x_preV (ci := 12) hK hZ hA hW (hI 0 (by decide)) lR_0 rfl) rfl rfl hl.1 rfl (lv_room (Nat.le_of_ble_eq_true rfl)) dX12_turns_91 ⟨Nat.zero_le _, Nat.zero_le _⟩) hW hA (fun r1015 σ1014 H locs h hW => ?_)
        try dsimp only at h
        refine lv_aload_n hx hb dX12_turns_94 rfl (lv_at hl 0 rfl) ?_
        refine xgX12_8r hx hb hts hown hK hW 0 hcX12_turns_X12 (hI 0 (by decide)) lR_0 (hts _ hwX12_turns_5) (sR_0_8 _) dX12_turns_95 ?_
        refine lv_iload_n hx hb dX12_turns_98 rfl (lv_at hl 1 rfl) ?_
        obtain ⟨hi1016, h⟩ := h
        refine x_iald hx hb hK hW 5 (hI 5 (by decide)) lR_5 hi1016 dX12_turns_99 ?_
        refine lv_icmp_le (tgt := 107) hx hb dX12_turns_100 (by decide) (fun c1017 => ?_) (fun c1017 => ?_)
        · have h := h.1 c1017
          refine lv_lconst (v := 0) hx hb dX12_turns_107 (by decide) ?_
          exact blk108   (0 : Int64) _ _ _ _ hW (lv_sub hl [] rfl) h
        · have h := h.2 c1017
          refine lv_lconst (v := 1) hx hb dX12_turns_103 (by decide) ?_
          refine lv_goto (tgt := 108) hx hb dX12_turns_104 (by decide) ?_
          exact blk108   (1 : Int64) _ _ _ _ hW (lv_sub hl [] rfl) h
      · have h := h.2 c1006
        exact blk20    _ _ _ _ hW (lv_sub hl [] rfl) h
  exact main _ _ _ hW hl
theorem hwX12_years_0 : (.fieldLink RX12 166 "FortyBeltsModel" "belts" "I" : Cond) ∈ wsX12_years := (List.mem_cons_of_mem _ (List.mem_append_left _ (List.mem_append_left _ (List.mem_of_getElem? (i := 1) rfl))))
theorem hwX12_years_1 : (.constantLong RX12 444 (999999) : Cond) ∈ wsX12_years := (List.mem_cons_of_mem _ (List.mem_append_left _ (List.mem_append_left _ (List.mem_of_getElem? (i := 0) rfl))))
theorem hcX12_years_X12 : ∀ w ∈ wsX120, w ∈ wsX12_years := fun _ h => (List.mem_cons_of_mem _ (List.mem_append_right _ h))
set_option maxHeartbeats 4000000 in
set_option maxRecDepth 100000 in
theorem J_X12_years {D : va_G} {KA : Nat → ClassId} {zs : ZS} {ad : Nat → Nat} {ids : List Nat} {sz : Nat} (l : Launch) (hI : ∀ c, c < 35 → c ∈ ids) {a1 : Int32} {a2 : Int32} {a3 : Int32}  {σ : St} {post : Int32 → St → Prop} (h : wX12_years  a1 a2 a3 σ post) : Met l yX12_years wsX12_years rmX12_years (va_Pc [.ref (ad 0), .int a1, .int a2, .int a3] (xIn D KA zs layR stR ad ids sz σ)) (va_Qi post (xOut D KA layR stR ad ids) (xA ad ids sz)) 0 0 (xA ad ids sz) := by
  refine Met.ofW (cc := cX12_years) (maxL := 7) (ret := (some .int)) (by decide) rfl ?_
  intro p e s m args below meth c s₁ B hml hv
  obtain ⟨hav, hsz, hK, hZ, hP, hD⟩ := hv
  have hx := B.exec
  have hb := B.bytes
  have hr := B.returns
  have hts := atoms_spec (ws := wsX12_years) B.pre
  have hown : s.vm.findClass RX12 = some m.cls := findClass_of_methodNamed B.named
  have hlocks := B.notSynchronized
  subst hsz
  have hA : ∀ q : Nat, s.heap.size ≤ q → xA ad ids s.heap.size q := fun q h => Or.inr h
  have hW : xW D KA layR stR ad ids (xA ad ids s.heap.size) s.heap σ s.heap [] := ⟨hP, xA_D (D := D) hD, va_S.rf⟩
  have kr : ∀ (v : Int32) (σ : St) (H : Heap) (locs : List Loc) (ls : Array Slot) (pc : Nat), xW D KA layR stR ad ids (xA ad ids s.heap.size) s.heap σ H locs → post v σ → decode cX12_years pc = .ok (.ireturn, 1) → W p l e rmX12_years s m args below meth c H locs 0 0 (MQ below (va_Qi post (xOut D KA layR stR ad ids) (xA ad ids s.heap.size)) args s 0 0 (xA ad ids s.heap.size)) (F0 m pc ls [.int v]) := fun v σ H locs ls pc hW h hd => x_iret hx hb hr hlocks hW h hd
  have hl := lv_entry ([.ref (ad 0), .int a1, .int a2, .int a3]) (n := 7) (Nat.le_of_ble_eq_true rfl)
  rw [show entryFrame m args 7 = entryFrame m ([.ref (ad 0), .int a1, .int a2, .int a3] : List Value).toArray 7 from by rw [hav]]
  rw [lg_entry_eq]
  generalize (lg_sl ([.ref (ad 0), .int a1, .int a2, .int a3]) ++ List.replicate (7 - (lg_sl ([.ref (ad 0), .int a1, .int a2, .int a3])).length) Slot.unset).toArray = ls at hl ⊢
  have hl : lv_has ls 7 [(0, .ref (ad 0)), (1, .int a1), (2, .int a2), (3, .int a3)] := hl
  show W p l e rmX12_years s m args below meth c s.heap [] 0 0 _ _
  generalize MQ below (va_Qi post (xOut D KA layR stR ad ids) (xA ad ids s.heap.size)) args s 0 0 (xA ad ids s.heap.size) = Q at kr ⊢
  have blk104 : ∀ (x2 : Int32) (k58 : Int32 → Int32 → St → Prop) (hk58 : ∀ (x4 : Int32) (x5 : Int32) (σ : St) (H : Heap) (locs : List Loc) (ls : Array Slot), xW D KA layR stR ad ids (xA ad ids s.heap.size) s.heap σ H locs → lv_has ls 7 [(0, .ref (ad 0)), (2, .int x2), (4, .int x4), (5, .int x5)] → k58 x4 x5 σ → W p l e rmX12_years s m args below meth c H locs 0 0 Q (F0 m 58 ls [])) (x4 : Int32) (x5 : Int32) (σ : St) (H : Heap) (locs : List Loc) (ls : Array Slot), xW D KA layR stR ad ids (xA ad ids s.heap.size) s.heap σ H locs → lv_has ls 7 [(0, .ref (ad 0)), (2, .int x2), (4, .int x4), (5, .int x5)] → wX12_years_104 k58 post x2 x4 x5 σ → W p l e rmX12_years s m args below meth c H locs 0 0 Q (F0 m 104 ls []) := by
    intro x2 k58 hk58 x4 x5 σ H locs ls hW hl h
    unfold wX12_years_104 at h
    obtain ⟨v1, hv1⟩ : ∃ y : Int32, y = x5 + (1 : Int32) := ⟨_, rfl⟩
    have h := h v1 hv1
    refine lv_iinc (v := v1) (lv' := [(5, .int v1), (0, .ref (ad 0)), (2, .int x2), (4, .int x4)]) hx hb dX12_years_104 hl (k := 3) rfl (by rw [hv1]; rfl) (by decide) rfl (fun ls hl => ?_)
    refine lv_goto (tgt := 58) hx hb dX12_years_107 (by decide) ?_
    exact hk58 x4 v1 _ _ _ _ hW (lv_sub hl [1, 2, 3, 0] rfl) h
  have blk100 : ∀ (x2 : Int32) (k58 : Int32 → Int32 → St → Prop) (hk58 : ∀ (x4 : Int32) (x5 : Int32) (σ : St) (H : Heap) (locs : List Loc) (ls : Array Slot), xW D KA layR stR ad ids (xA ad ids s.heap.size) s.heap σ H locs → lv_has ls 7 [(0, .ref (ad 0)), (2, .int x2), (4, .int x4), (5, .int x5)] → k58 x4 x5 σ → W p l e rmX12_years s m args below meth c H locs 0 0 Q (F0 m 58 ls [])) (x5 : Int32) (σ : St) (H : Heap) (locs : List Loc) (ls : Array Slot), xW D KA layR stR ad ids (xA ad ids s.heap.size) s.heap σ H locs → lv_has ls 7 [(0, .ref (ad 0)), (2, .int x2), (5, .int x5)] → wX12_years_100 k58 post x2 x5 σ → W p l e rmX12_years s m args below meth c H locs 0 0 Q (F0 m 100 ls []) := by
    intro x2 k58 hk58 x5 σ H locs ls hW hl h
    unfold wX12_years_100 at h
    refine lv_iload hx hb dX12_years_100 (lv_at hl 2 rfl) ?_
    refine lv_istore (lv' := [(4, .int x5), (0, .ref (ad 0)), (2, .int x2), (5, .int x5)]) hx hb dX12_years_102 hl (by decide) rfl (fun ls hl => ?_)
    exact blk104 x2 k58 hk58 x5 x5 _ _ _ _ hW (lv_sub hl [1, 2, 0, 3] rfl) h
  have blk58 : ∀ (x2 : Int32) (n : Nat) (x4 : Int32) (x5 : Int32) (σ : St) (H : Heap) (locs : List Loc) (ls : Array Slot), xW D KA layR stR ad ids (xA ad ids s.heap.size) s.heap σ H locs → lv_has ls 7 [(0, .ref (ad 0)), (2, .int x2), (4, .int x4), (5, .int x5)] → wX12_years_58 post x2 n x4 x5 σ → W p l e rmX12_years s m args below meth c H locs 0 0 Q (F0 m 58 ls []) := by
    intro   x2 n
    induction n with
    | zero => intro x4 x5 σ H locs ls hW hl h; exact (h : False).elim
    | succ n ih =>
      intro x4 x5 σ H locs ls hW hl h
      have hk58 : ∀ (x4 : Int32) (x5 : Int32) (σ : St) (H : Heap) (locs : List Loc) (ls : Array Slot), xW D KA layR stR ad ids (xA ad ids s.heap.size) s.heap σ H locs → lv_has ls 7 [(0, .ref (ad 0)), (2, .int x2), (4, .int x4), (5, .int x5)] → (wX12_years_58 post x2 n) x4 x5 σ → W p l e rmX12_years s m args below meth c H locs 0 0 Q (F0 m 58 ls []) := fun x4 x5 σ H locs ls hW hl h => ih x4 x5 σ H locs ls hW hl h
      rw [wX12_years_58_s] at h
      try dsimp only at h
      generalize wX12_years_58 post x2 n = k58 at h hk58
      refine lv_iload hx hb dX12_years_58 (lv_at hl 3 rfl) ?_
      refine lv_aload_n hx hb dX12_years_60 rfl (lv_at hl 0 rfl) ?_
      refine xgX12_28 hx hb hts hown hK hW 0 hcX12_years_X12 (hI 0 (by decide)) lR_0 (hts _ hwX12_years_0) dX12_years_61 ?_
      refine lv_icmp_ge (tgt := 110) hx hb dX12_years_64 (by decide) (fun c2 => ?_) (fun c2 => ?_)
      · have h := h.1 c2
        refine lv_iload hx hb dX12_years_110 (lv_at hl 2 rfl) ?_
        exact kr _ _ _ _ _ _ hW h dX12_years_112
      · have h := h.2 c2
        refine lv_aload_n hx hb dX12_years_67 rfl (lv_at hl 0 rfl) ?_
        refine lv_iload hx hb dX12_years_68 (lv_at hl 3 rfl) ?_
        refine lv_iload_n hx hb dX12_years_70 rfl (lv_at hl 1 rfl) ?_
        refine x_calli (va_runV (As := [.int x5, .int x2]) (rest := []) ⟨hx, hb, hml, hown, hts⟩ (J_X12_daysOf l hI h) (cwV 2 hts gX12_years_X12_daysOf rfl rfl rfl hdV_X12_daysOf ⟨Nat.le_of_ble_eq_true rfl, Nat.le_of_ble_eq_true rfl⟩) (x_preV (ci := 12) hK hZ hA hW (hI 0 (by decide)) lR_0 rfl) rfl rfl hl.1 rfl (lv_room (Nat.le_of_ble_eq_true rfl)) dX12_years_71 ⟨Nat.zero_le _, Nat.zero_le _⟩) hW hA (fun r4 σ3 H locs h hW => ?_)
        try dsimp only at h
        refine lv_istore (lv' := [(6, .int r4), (0, .ref (ad 0)), (2, .int x2), (4, .int x4), (5, .int x5)]) hx hb dX12_years_74 hl (by decide) rfl (fun ls hl => ?_)
        refine lv_iload hx hb dX12_years_76 (lv_at hl 0 rfl) ?_
        refine lv_iconst (v := (-1)) hx hb dX12_years_78 (by decide) ?_
        refine lv_icmp_eq (tgt := 104) hx hb dX12_years_79 (by decide) (fun c5 => ?_) (fun c5 => ?_)
        · have h := h.1 c5
          exact blk104 x2 k58 hk58 x4 x5 _ _ _ _ hW (lv_sub hl [1, 2, 3, 4] rfl) h
        · have h := h.2 c5
          refine lv_iload hx hb dX12_years_82 (lv_at hl 3 rfl) ?_
          refine lv_iconst (v := (-1)) hx hb dX12_years_84 (by decide) ?_
          refine lv_icmp_eq (tgt := 100) hx hb dX12_years_85 (by decide) (fun c6 => ?_) (fun c6 => ?_)
          · have h := h.1 c6
            exact blk100 x2 k58 hk58 x5 _ _ _ _ hW (lv_sub hl [1, 2, 4] rfl) h
          · have h := h.2 c6
            refine lv_iload hx hb dX12_years_88 (lv_at hl 0 rfl) ?_
            refine lv_aload_n hx hb dX12_years_90 rfl (lv_at hl 1 rfl) ?_
            refine lv_iload hx hb dX12_years_91 (lv_at hl 3 rfl) ?_
            refine lv_iload_n hx hb dX12_years_93 rfl (lv_at hl 2 rfl) ?_
            refine x_calli (va_runV (As := [.int x4, .int x2]) (rest := [.int r4]) ⟨hx, hb, hml, hown, hts⟩ (J_X12_daysOf l hI h) (cwV 2 hts gX12_years_X12_daysOf rfl rfl rfl hdV_X12_daysOf ⟨Nat.le_of_ble_eq_true rfl, Nat.le_of_ble_eq_true rfl⟩) (x_preV (ci := 12) hK hZ hA hW (hI 0 (by decide)) lR_0 rfl) rfl rfl hl.1 rfl (lv_room (Nat.le_of_ble_eq_true rfl)) dX12_years_94 ⟨Nat.zero_le _, Nat.zero_le _⟩) hW hA (fun r8 σ7 H locs h hW => ?_)
            try dsimp only at h
            refine lv_icmp_ge (tgt := 104) hx hb dX12_years_97 (by decide) (fun c9 => ?_) (fun c9 => ?_)
            · have h := h.1 c9
              exact blk104 x2 k58 hk58 x4 x5 _ _ _ _ hW (lv_sub hl [1, 2, 3, 4] rfl) h
            · have h := h.2 c9
              exact blk100 x2 k58 hk58 x5 _ _ _ _ hW (lv_sub hl [1, 2, 4] rfl) h
  have blk34 : ∀ (σ : St) (H : Heap) (locs : List Loc) (ls : Array Slot), xW D KA layR stR ad ids (xA ad ids s.heap.size) s.heap σ H locs → lv_has ls 7 [] → wX12_years_34 post  σ → W p l e rmX12_years s m args below meth c H locs 0 0 Q (F0 m 34 ls []) := by
    intro    σ H locs ls hW hl h
    unfold wX12_years_34 at h
    refine lv_bipush (v := (-2)) hx hb dX12_years_34 (by decide) ?_
    exact kr _ _ _ _ _ _ hW h dX12_years_36
  have blk22 : ∀ (x1 : Int32) (x2 : Int32) (x3 : Int32) (σ : St) (H : Heap) (locs : List Loc) (ls : Array Slot), xW D KA layR stR ad ids (xA ad ids s.heap.size) s.heap σ H locs → lv_has ls 7 [(0, .ref (ad 0)), (1, .int x1), (2, .int x2), (3, .int x3)] → wX12_years_22 post x1 x2 x3 σ → W p l e rmX12_years s m args below meth c H locs 0 0 Q (F0 m 22 ls []) := by
    intro   x1 x2 x3 σ H locs ls hW hl h
    unfold wX12_years_22 at h
    refine lv_iload_n hx hb dX12_years_22 rfl (lv_at hl 2 rfl) ?_
    refine lv_i2l hx hb dX12_years_23 rfl ?_
    refine lv_lconst (v := 1) hx hb dX12_years_24 (by decide) ?_
    refine lv_ldc2 hx hb hown (hts _ hwX12_years_1) dX12_years_25 ?_
    refine x_calli (va_runS (As := [.long (x2.toInt64), .long (1 : Int64), .long (999999 : Int64)]) (rest := []) ⟨hx, hb, hml, hown, hts⟩ (J_X12_in l hI h) (va_cwS 3 hts gX12_years_X12_in rfl rfl rfl hdS_X12_in ⟨Nat.le_of_ble_eq_true rfl, Nat.le_of_ble_eq_true rfl⟩) (x_preS hK hZ hA hW) rfl rfl hl.1 rfl (lv_room (Nat.le_of_ble_eq_true rfl)) dX12_years_28 ⟨Nat.zero_le _, Nat.zero_le _⟩) hW hA (fun r11 σ10 H locs h hW => ?_)
    try dsimp only at h
    refine lv_if_ne (tgt := 37) hx hb dX12_years_31 (by decide) (fun c12 => ?_) (fun c12 => ?_)
    · have h := h.1 c12
      refine lv_aload_n hx hb dX12_years_37 rfl (lv_at hl 0 rfl) ?_
      refine x_callv (va_runV (As := []) (rest := []) ⟨hx, hb, hml, hown, hts⟩ (J_X12_lays l hI h) (cwV 0 hts gX12_years_X12_lays rfl rfl rfl hdV_X12_lays ⟨Nat.le_of_ble_eq_true rfl, Nat.le_of_ble_eq_true rfl⟩) (x_preV (ci := 12) hK hZ hA hW (hI 0 (by decide)) lR_0 rfl) rfl rfl hl.1 rfl (lv_room (Nat.le_of_ble_eq_true rfl)) dX12_years_38 ⟨Nat.zero_le _, Nat.zero_le _⟩) hW hA (fun σ13 H locs h hW => ?_)
      try dsimp only at h
      refine lv_iload_n hx hb dX12_years_41 rfl (lv_at hl 3 rfl) ?_
      refine lv_if_ne (tgt := 52) hx hb dX12_years_42 (by decide) (fun c14 => ?_) (fun c14 => ?_)
      · have h := h.1 c14
        refine lv_iconst (v := (-1)) hx hb dX12_years_52 (by decide) ?_
        refine lv_istore (lv' := [(4, .int (-1 : Int32)), (0, .ref (ad 0)), (1, .int x1), (2, .int x2), (3, .int x3)]) hx hb dX12_years_53 hl (by decide) rfl (fun ls hl => ?_)
        refine lv_iconst (v := 0) hx hb dX12_years_55 (by decide) ?_
        refine lv_istore (lv' := [(5, .int (0 : Int32)), (4, .int (-1 : Int32)), (0, .ref (ad 0)), (1, .int x1), (2, .int x2), (3, .int x3)]) hx hb dX12_years_56 hl (by decide) rfl (fun ls hl => ?_)
        obtain ⟨n, h⟩ := h
        exact blk58   x2 n (-1 : Int32) (0 : Int32) _ _ _ _ hW (lv_sub hl [2, 4, 1, 0] rfl) h
      · have h := h.2 c14
        refine lv_aload_n hx hb dX12_years_45 rfl (lv_at hl 0 rfl) ?_
        refine lv_iload_n hx hb dX12_years_46 rfl (lv_at hl 1 rfl) ?_
        refine lv_iload_n hx hb dX12_years_47 rfl (lv_at hl 2 rfl) ?_
        refine x_calli (va_runV (As := [.int x1, .int x2]) (rest := []) ⟨hx, hb, hml, hown, hts⟩ (J_X12_daysOf l hI h) (cwV 2 hts gX12_years_X12_daysOf rfl rfl rfl hdV_X12_daysOf ⟨Nat.le_of_ble_eq_true rfl, Nat.le_of_ble_eq_true rfl⟩) (x_preV (ci := 12) hK hZ hA hW (hI 0 (by decide)) lR_0 rfl) rfl rfl hl.1 rfl (lv_room (Nat.le_of_ble_eq_true rfl)) dX12_years_48 ⟨Nat.zero_le _, Nat.zero_le _⟩) hW hA (fun r17 σ16 H locs h hW => ?_)
        try dsimp only at h
        exact kr _ _ _ _ _ _ hW h dX12_years_51
    · have h := h.2 c12
      exact blk34    _ _ _ _ hW (lv_sub hl [] rfl) h
  have main : ∀ (H : Heap) (locs : List Loc) (ls : Array Slot), xW D KA layR stR ad ids (xA ad ids s.heap.size) s.heap σ H locs → lv_has ls 7 [(0, .ref (ad 0)), (1, .int a1), (2, .int a2), (3, .int a3)] → W p l e rmX12_years s m args below meth c H locs 0 0 Q (F0 m 0 ls []) := by
    intro H locs ls hW hl
    unfold wX12_years at h
    refine lv_iload_n hx hb dX12_years_0 rfl (lv_at hl 3 rfl) ?_
    refine lv_i2l hx hb dX12_years_1 rfl ?_
    refine lv_lconst (v := 0) hx hb dX12_years_2 (by decide) ?_
    refine lv_lconst (v := 1) hx hb dX12_years_3 (by decide) ?_
    refine x_calli (va_runS (As := [.long (a3.toInt64), .long (0 : Int64), .long (1 : Int64)]) (rest := []) ⟨hx, hb, hml, hown, hts⟩ (J_X12_in l hI h) (va_cwS 3 hts gX12_years_X12_in rfl rfl rfl hdS_X12_in ⟨Nat.le_of_ble_eq_true rfl, Nat.le_of_ble_eq_true rfl⟩) (x_preS hK hZ hA hW) rfl rfl hl.1 rfl (lv_room (Nat.le_of_ble_eq_true rfl)) dX12_years_4 ⟨Nat.zero_le _, Nat.zero_le _⟩) hW hA (fun r1002 σ1001 H locs h hW => ?_)
    try dsimp only at h
    refine lv_if_eq (tgt := 34) hx hb dX12_years_7 (by decide) (fun c1003 => ?_) (fun c1003 => ?_)
    · have h := h.1 c1003
      exact blk34    _ _ _ _ hW (lv_sub hl [] rfl) h
    · have h := h.2 c1003
      refine lv_iload_n hx hb dX12_years_10 rfl (lv_at hl 3 rfl) ?_
      refine lv_if_ne (tgt := 22) hx hb dX12_years_11 (by decide) (fun c1004 => ?_) (fun c1004 => ?_)
      · have h := h.1 c1004
        exact blk22   a1 a2 a3 _ _ _ _ hW (lv_sub hl [0, 1, 2, 3] rfl) h
      · have h := h.2 c1004
        refine lv_aload_n hx hb dX12_years_14 rfl (lv_at hl 0 rfl) ?_
        refine lv_iload_n hx hb dX12_years_15 rfl (lv_at hl 1 rfl) ?_
        refine x_calli (va_runV (As := [.int a1]) (rest := []) ⟨hx, hb, hml, hown, hts⟩ (J_X12_isBelt l hI h) (cwV 1 hts gX12_years_X12_isBelt rfl rfl rfl hdV_X12_isBelt ⟨Nat.le_of_ble_eq_true rfl, Nat.le_of_ble_eq_true rfl⟩) (x_preV (ci := 12) hK hZ hA hW (hI 0 (by decide)) lR_0 rfl) rfl rfl hl.1 rfl (lv_room (Nat.le_of_ble_eq_true rfl)) dX12_years_16 ⟨Nat.zero_le _, Nat.zero_le _⟩) hW hA (fun r1006 σ1005 H locs h hW => ?_)
        try dsimp only at h
        refine lv_if_eq (tgt := 34) hx hb dX12_years_19 (by decide) (fun c1007 => ?_) (fun c1007 => ?_)
        · have h := h.1 c1007
          exact blk34    _ _ _ _ hW (lv_sub hl [] rfl) h
        · have h := h.2 c1007
          exact blk22   a1 a2 a3 _ _ _ _ hW (lv_sub hl [0, 1, 2, 3] rfl) h
  exact main _ _ _ hW hl
