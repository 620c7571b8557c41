theorem hwX12_hangs_0 : (.fieldLink RX12 160 "FortyBeltsModel" "machines" "I" : Cond) ∈ wsX12_hangs := (List.mem_cons_of_mem _ (List.mem_append_left _ (List.mem_append_left _ (List.mem_of_getElem? (i := 1) rfl))))
theorem hwX12_hangs_1 : (.fieldLink RX12 44 "FortyBeltsModel" "isRun" "[I" : Cond) ∈ wsX12_hangs := (List.mem_cons_of_mem _ (List.mem_append_left _ (List.mem_append_left _ (List.mem_of_getElem? (i := 2) rfl))))
theorem hwX12_hangs_2 : (.fieldLink RX12 166 "FortyBeltsModel" "belts" "I" : Cond) ∈ wsX12_hangs := (List.mem_cons_of_mem _ (List.mem_append_left _ (List.mem_append_left _ (List.mem_of_getElem? (i := 0) rfl))))
theorem hcX12_hangs_X12 : ∀ w ∈ wsX120, w ∈ wsX12_hangs := fun _ h => (List.mem_cons_of_mem _ (List.mem_append_right _ h))
set_option maxHeartbeats 4000000 in
set_option maxRecDepth 100000 in
theorem J_X12_hangs {D : va_G} {KA : Nat → ClassId} {zs : ZS} {ad : Nat → Nat} {ids : List Nat} {sz : Nat} (l : Launch) (hI : ∀ c, c < 35 → c ∈ ids)   {σ : St} {post : Int32 → St → Prop} (h : wX12_hangs   σ post) : Met l yX12_hangs wsX12_hangs rmX12_hangs (va_Pc [.ref (ad 0)] (xIn D KA zs layR stR ad ids sz σ)) (va_Qi post (xOut D KA layR stR ad ids) (xA ad ids sz)) 0 0 (xA ad ids sz) := by
  refine Met.ofW (cc := cX12_hangs) (maxL := 7) (ret := (some .int)) (by decide) rfl ?_
  intro p e s m args below meth c s₁ B hml hv
  obtain ⟨hav, hsz, hK, hZ, hP, hD⟩ := hv
  have hx := B.exec
  have hb := B.bytes
  have hr := B.returns
  have hts := atoms_spec (ws := wsX12_hangs) B.pre
  have hown : s.vm.findClass RX12 = some m.cls := findClass_of_methodNamed B.named
  have hlocks := B.notSynchronized
  subst hsz
  have hA : ∀ q : Nat, s.heap.size ≤ q → xA ad ids s.heap.size q := fun q h => Or.inr h
  have hW : xW D KA layR stR ad ids (xA ad ids s.heap.size) s.heap σ s.heap [] := ⟨hP, xA_D (D := D) hD, va_S.rf⟩
  have kr : ∀ (v : Int32) (σ : St) (H : Heap) (locs : List Loc) (ls : Array Slot) (pc : Nat), xW D KA layR stR ad ids (xA ad ids s.heap.size) s.heap σ H locs → post v σ → decode cX12_hangs pc = .ok (.ireturn, 1) → W p l e rmX12_hangs s m args below meth c H locs 0 0 (MQ below (va_Qi post (xOut D KA layR stR ad ids) (xA ad ids s.heap.size)) args s 0 0 (xA ad ids s.heap.size)) (F0 m pc ls [.int v]) := fun v σ H locs ls pc hW h hd => x_iret hx hb hr hlocks hW h hd
  have hl := lv_entry ([.ref (ad 0)]) (n := 7) (Nat.le_of_ble_eq_true rfl)
  rw [show entryFrame m args 7 = entryFrame m ([.ref (ad 0)] : List Value).toArray 7 from by rw [hav]]
  rw [lg_entry_eq]
  generalize (lg_sl ([.ref (ad 0)]) ++ List.replicate (7 - (lg_sl ([.ref (ad 0)])).length) Slot.unset).toArray = ls at hl ⊢
  have hl : lv_has ls 7 [(0, .ref (ad 0))] := hl
  show W p l e rmX12_hangs s m args below meth c s.heap [] 0 0 _ _
  generalize MQ below (va_Qi post (xOut D KA layR stR ad ids) (xA ad ids s.heap.size)) args s 0 0 (xA ad ids s.heap.size) = Q at kr ⊢
  have blk88 : ∀ (k6 : Int32 → Int32 → Int32 → St → Prop) (hk6 : ∀ (x1 : Int32) (x2 : Int32) (x3 : Int32) (σ : St) (H : Heap) (locs : List Loc) (ls : Array Slot), xW D KA layR stR ad ids (xA ad ids s.heap.size) s.heap σ H locs → lv_has ls 7 [(0, .ref (ad 0)), (1, .int x1), (2, .int x2), (3, .int x3)] → k6 x1 x2 x3 σ → W p l e rmX12_hangs s m args below meth c H locs 0 0 Q (F0 m 6 ls [])) (x1 : Int32) (x2 : Int32) (x3 : Int32) (σ : St) (H : Heap) (locs : List Loc) (ls : Array Slot), xW D KA layR stR ad ids (xA ad ids s.heap.size) s.heap σ H locs → lv_has ls 7 [(0, .ref (ad 0)), (1, .int x1), (2, .int x2), (3, .int x3)] → wX12_hangs_88 k6 post x1 x2 x3 σ → W p l e rmX12_hangs s m args below meth c H locs 0 0 Q (F0 m 88 ls []) := by
    intro  k6 hk6 x1 x2 x3 σ H locs ls hW hl h
    unfold wX12_hangs_88 at h
    obtain ⟨v1, hv1⟩ : ∃ y : Int32, y = x3 + (1 : Int32) := ⟨_, rfl⟩
    have h := h v1 hv1
    refine lv_iinc (v := v1) (lv' := [(3, .int v1), (0, .ref (ad 0)), (1, .int x1), (2, .int x2)]) hx hb dX12_hangs_88 hl (k := 3) rfl (by rw [hv1]; rfl) (by decide) rfl (fun ls hl => ?_)
    refine lv_goto (tgt := 6) hx hb dX12_hangs_91 (by decide) ?_
    exact hk6 x1 x2 v1 _ _ _ _ hW (lv_sub hl [1, 2, 3, 0] rfl) h
  have blk65 : ∀ (x1 : Int32) (x2 : Int32) (x3 : Int32) (x4 : Int32) (k6 : Int32 → Int32 → Int32 → St → Prop) (hk6 : ∀ (x1 : Int32) (x2 : Int32) (x3 : Int32) (σ : St) (H : Heap) (locs : List Loc) (ls : Array Slot), xW D KA layR stR ad ids (xA ad ids s.heap.size) s.heap σ H locs → lv_has ls 7 [(0, .ref (ad 0)), (1, .int x1), (2, .int x2), (3, .int x3)] → k6 x1 x2 x3 σ → W p l e rmX12_hangs s m args below meth c H locs 0 0 Q (F0 m 6 ls [])) (k27 : Int32 → Int32 → St → Prop) (hk27 : ∀ (x5 : Int32) (x6 : Int32) (σ : St) (H : Heap) (locs : List Loc) (ls : Array Slot), xW D KA layR stR ad ids (xA ad ids s.heap.size) s.heap σ H locs → lv_has ls 7 [(0, .ref (ad 0)), (1, .int x1), (2, .int x2), (3, .int x3), (4, .int x4), (5, .int x5), (6, .int x6)] → k27 x5 x6 σ → W p l e rmX12_hangs s m args below meth c H locs 0 0 Q (F0 m 27 ls [])) (x6 : Int32) (s0 : Int32) (s1 : Int32) (σ : St) (H : Heap) (locs : List Loc) (ls : Array Slot), xW D KA layR stR ad ids (xA ad ids s.heap.size) s.heap σ H locs → lv_has ls 7 [(0, .ref (ad 0)), (1, .int x1), (2, .int x2), (3, .int x3), (4, .int x4), (6, .int x6)] → wX12_hangs_65 k6 k27 post x1 x2 x3 x4 x6 s0 s1 σ → W p l e rmX12_hangs s m args below meth c H locs 0 0 Q (F0 m 65 ls [.int s1, .int s0]) := by
    intro x1 x2 x3 x4 k6 hk6 k27 hk27 x6 s0 s1 σ H locs ls hW hl h
    unfold wX12_hangs_65 at h
    refine lv_iadd hx hb dX12_hangs_65 ?_
    refine lv_topi (fun v2 hv2 => ?_)
    have h := h v2 hv2
    refine lv_istore (lv' := [(5, .int v2), (0, .ref (ad 0)), (1, .int x1), (2, .int x2), (3, .int x3), (4, .int x4), (6, .int x6)]) hx hb dX12_hangs_66 hl (by decide) rfl (fun ls hl => ?_)
    obtain ⟨v3, hv3⟩ : ∃ y : Int32, y = x6 + (1 : Int32) := ⟨_, rfl⟩
    have h := h v3 hv3
    refine lv_iinc (v := v3) (lv' := [(6, .int v3), (5, .int v2), (0, .ref (ad 0)), (1, .int x1), (2, .int x2), (3, .int x3), (4, .int x4)]) hx hb dX12_hangs_68 hl (k := 6) rfl (by rw [hv3]; rfl) (by decide) rfl (fun ls hl => ?_)
    refine lv_goto (tgt := 27) hx hb dX12_hangs_71 (by decide) ?_
    exact hk27 v2 v3 _ _ _ _ hW (lv_sub hl [2, 3, 4, 5, 6, 1, 0] rfl) h
  have blk64 : ∀ (x1 : Int32) (x2 : Int32) (x3 : Int32) (x4 : Int32) (k6 : Int32 → Int32 → Int32 → St → Prop) (hk6 : ∀ (x1 : Int32) (x2 : Int32) (x3 : Int32) (σ : St) (H : Heap) (locs : List Loc) (ls : Array Slot), xW D KA layR stR ad ids (xA ad ids s.heap.size) s.heap σ H locs → lv_has ls 7 [(0, .ref (ad 0)), (1, .int x1), (2, .int x2), (3, .int x3)] → k6 x1 x2 x3 σ → W p l e rmX12_hangs s m args below meth c H locs 0 0 Q (F0 m 6 ls [])) (k27 : Int32 → Int32 → St → Prop) (hk27 : ∀ (x5 : Int32) (x6 : Int32) (σ : St) (H : Heap) (locs : List Loc) (ls : Array Slot), xW D KA layR stR ad ids (xA ad ids s.heap.size) s.heap σ H locs → lv_has ls 7 [(0, .ref (ad 0)), (1, .int x1), (2, .int x2), (3, .int x3), (4, .int x4), (5, .int x5), (6, .int x6)] → k27 x5 x6 σ → W p l e rmX12_hangs s m args below meth c H locs 0 0 Q (F0 m 27 ls [])) (x6 : Int32) (s0 : Int32) (σ : St) (H : Heap) (locs : List Loc) (ls : Array Slot), xW D KA layR stR ad ids (xA ad ids s.heap.size) s.heap σ H locs → lv_has ls 7 [(0, .ref (ad 0)), (1, .int x1), (2, .int x2), (3, .int x3), (4, .int x4), (6, .int x6)] → wX12_hangs_64 k6 k27 post x1 x2 x3 x4 x6 s0 σ → W p l e rmX12_hangs s m args below meth c H locs 0 0 Q (F0 m 64 ls [.int s0]) := by
    intro x1 x2 x3 x4 k6 hk6 k27 hk27 x6 s0 σ H locs ls hW hl h
    unfold wX12_hangs_64 at h
    refine lv_iconst (v := 0) hx hb dX12_hangs_64 (by decide) ?_
    exact blk65 x1 x2 x3 x4 k6 hk6 k27 hk27 x6 s0 (0 : Int32) _ _ _ _ hW (lv_sub hl [0, 1, 2, 3, 4, 5] rfl) h
  have blk27 : ∀ (k6 : Int32 → Int32 → Int32 → St → Prop) (hk6 : ∀ (x1 : Int32) (x2 : Int32) (x3 : Int32) (σ : St) (H : Heap) (locs : List Loc) (ls : Array Slot), xW D KA layR stR ad ids (xA ad ids s.heap.size) s.heap σ H locs → lv_has ls 7 [(0, .ref (ad 0)), (1, .int x1), (2, .int x2), (3, .int x3)] → k6 x1 x2 x3 σ → W p l e rmX12_hangs s m args below meth c H locs 0 0 Q (F0 m 6 ls [])) (x1 : Int32) (x2 : Int32) (x3 : Int32) (x4 : Int32) (n : Nat) (x5 : Int32) (x6 : Int32) (σ : St) (H : Heap) (locs : List Loc) (ls : Array Slot), xW D KA layR stR ad ids (xA ad ids s.heap.size) s.heap σ H locs → lv_has ls 7 [(0, .ref (ad 0)), (1, .int x1), (2, .int x2), (3, .int x3), (4, .int x4), (5, .int x5), (6, .int x6)] → wX12_hangs_27 k6 post x1 x2 x3 x4 n x5 x6 σ → W p l e rmX12_hangs s m args below meth c H locs 0 0 Q (F0 m 27 ls []) := by
    intro  k6 hk6 x1 x2 x3 x4 n
    induction n with
    | zero => intro x5 x6 σ H locs ls hW hl h; exact (h : False).elim
    | succ n ih =>
      intro x5 x6 σ H locs ls hW hl h
      have hk27 : ∀ (x5 : Int32) (x6 : Int32) (σ : St) (H : Heap) (locs : List Loc) (ls : Array Slot), xW D KA layR stR ad ids (xA ad ids s.heap.size) s.heap σ H locs → lv_has ls 7 [(0, .ref (ad 0)), (1, .int x1), (2, .int x2), (3, .int x3), (4, .int x4), (5, .int x5), (6, .int x6)] → (wX12_hangs_27 k6 post x1 x2 x3 x4 n) x5 x6 σ → W p l e rmX12_hangs s m args below meth c H locs 0 0 Q (F0 m 27 ls []) := fun x5 x6 σ H locs ls hW hl h => ih x5 x6 σ H locs ls hW hl h
      rw [wX12_hangs_27_s] at h
      try dsimp only at h
      generalize wX12_hangs_27 k6 post x1 x2 x3 x4 n = k27 at h hk27
      refine lv_iload hx hb dX12_hangs_27 (lv_at hl 6 rfl) ?_
      refine lv_aload_n hx hb dX12_hangs_29 rfl (lv_at hl 0 rfl) ?_
      refine xgX12_18 hx hb hts hown hK hW 0 hcX12_hangs_X12 (hI 0 (by decide)) lR_0 (hts _ hwX12_hangs_0) dX12_hangs_30 ?_
      refine lv_icmp_ge (tgt := 74) hx hb dX12_hangs_33 (by decide) (fun c4 => ?_) (fun c4 => ?_)
      · have h := h.1 c4
        refine lv_iload hx hb dX12_hangs_74 (lv_at hl 5 rfl) ?_
        refine lv_iload_n hx hb dX12_hangs_76 rfl (lv_at hl 2 rfl) ?_
        refine lv_icmp_gt (tgt := 83) hx hb dX12_hangs_77 (by decide) (fun c5 => ?_) (fun c5 => ?_)
        · have h := h.1 c5
          refine lv_iload hx hb dX12_hangs_83 (lv_at hl 5 rfl) ?_
          refine lv_istore_n (lv' := [(2, .int x5), (0, .ref (ad 0)), (1, .int x1), (3, .int x3), (4, .int x4), (5, .int x5), (6, .int x6)]) hx hb dX12_hangs_85 rfl hl (by decide) rfl (fun ls hl => ?_)
          refine lv_iload_n hx hb dX12_hangs_86 rfl (lv_at hl 3 rfl) ?_
          refine lv_istore_n (lv' := [(1, .int x3), (2, .int x5), (0, .ref (ad 0)), (3, .int x3), (4, .int x4), (5, .int x5), (6, .int x6)]) hx hb dX12_hangs_87 rfl hl (by decide) rfl (fun ls hl => ?_)
          exact blk88  k6 hk6 x3 x5 x3 _ _ _ _ hW (lv_sub hl [2, 0, 1, 3] rfl) h
        · have h := h.2 c5
          refine lv_goto (tgt := 88) hx hb dX12_hangs_80 (by decide) ?_
          exact blk88  k6 hk6 x1 x2 x3 _ _ _ _ hW (lv_sub hl [0, 1, 2, 3] rfl) h
      · have h := h.2 c4
        refine lv_iload hx hb dX12_hangs_36 (lv_at hl 5 rfl) ?_
        refine lv_aload_n hx hb dX12_hangs_38 rfl (lv_at hl 0 rfl) ?_
        refine xgX12_17r hx hb hts hown hK hW 0 hcX12_hangs_X12 (hI 0 (by decide)) lR_0 (hts _ hwX12_hangs_1) (sR_0_17 _) dX12_hangs_39 ?_
        refine lv_iload hx hb dX12_hangs_42 (lv_at hl 6 rfl) ?_
        obtain ⟨hi6, h⟩ := h
        refine x_iald hx hb hK hW 11 (hI 11 (by decide)) lR_11 hi6 dX12_hangs_44 ?_
        refine lv_iconst (v := 1) hx hb dX12_hangs_45 (by decide) ?_
        refine lv_icmp_ne (tgt := 64) hx hb dX12_hangs_46 (by decide) (fun c7 => ?_) (fun c7 => ?_)
        · have h := h.1 c7
          exact blk64 x1 x2 x3 x4 k6 hk6 k27 hk27 x6 x5 _ _ _ _ hW (lv_sub hl [0, 1, 2, 3, 4, 6] rfl) h
        · have h := h.2 c7
          refine lv_iload hx hb dX12_hangs_49 (lv_at hl 4 rfl) ?_
          refine lv_iload hx hb dX12_hangs_51 (lv_at hl 6 rfl) ?_
          refine lv_ishr hx hb dX12_hangs_53 ?_
          refine lv_iconst (v := 1) hx hb dX12_hangs_54 (by decide) ?_
          refine lv_iand hx hb dX12_hangs_55 ?_
          refine lv_iconst (v := 1) hx hb dX12_hangs_56 (by decide) ?_
          refine lv_icmp_ne (tgt := 64) hx hb dX12_hangs_57 (by decide) (fun c8 => ?_) (fun c8 => ?_)
          · have h := h.1 c8
            exact blk64 x1 x2 x3 x4 k6 hk6 k27 hk27 x6 x5 _ _ _ _ hW (lv_sub hl [0, 1, 2, 3, 4, 6] rfl) h
          · have h := h.2 c8
            refine lv_iconst (v := 1) hx hb dX12_hangs_60 (by decide) ?_
            refine lv_goto (tgt := 65) hx hb dX12_hangs_61 (by decide) ?_
            exact blk65 x1 x2 x3 x4 k6 hk6 k27 hk27 x6 x5 (1 : Int32) _ _ _ _ hW (lv_sub hl [0, 1, 2, 3, 4, 6] rfl) h
  have blk6 : ∀ (n : Nat) (x1 : Int32) (x2 : Int32) (x3 : Int32) (σ : St) (H : Heap) (locs : List Loc) (ls : Array Slot), xW D KA layR stR ad ids (xA ad ids s.heap.size) s.heap σ H locs → lv_has ls 7 [(0, .ref (ad 0)), (1, .int x1), (2, .int x2), (3, .int x3)] → wX12_hangs_6 post  n x1 x2 x3 σ → W p l e rmX12_hangs s m args below meth c H locs 0 0 Q (F0 m 6 ls []) := by
    intro    n
    induction n with
    | zero => intro x1 x2 x3 σ H locs ls hW hl h; exact (h : False).elim
    | succ n ih =>
      intro x1 x2 x3 σ H locs ls hW hl h
      have hk6 : ∀ (x1 : Int32) (x2 : Int32) (x3 : Int32) (σ : St) (H : Heap) (locs : List Loc) (ls : Array Slot), xW D KA layR stR ad ids (xA ad ids s.heap.size) s.heap σ H locs → lv_has ls 7 [(0, .ref (ad 0)), (1, .int x1), (2, .int x2), (3, .int x3)] → (wX12_hangs_6 post  n) x1 x2 x3 σ → W p l e rmX12_hangs s m args below meth c H locs 0 0 Q (F0 m 6 ls []) := fun x1 x2 x3 σ H locs ls hW hl h => ih x1 x2 x3 σ H locs ls hW hl h
      rw [wX12_hangs_6_s] at h
      try dsimp only at h
      generalize wX12_hangs_6 post  n = k6 at h hk6
      refine lv_iload_n hx hb dX12_hangs_6 rfl (lv_at hl 3 rfl) ?_
      refine lv_aload_n hx hb dX12_hangs_7 rfl (lv_at hl 0 rfl) ?_
      refine xgX12_28 hx hb hts hown hK hW 0 hcX12_hangs_X12 (hI 0 (by decide)) lR_0 (hts _ hwX12_hangs_2) dX12_hangs_8 ?_
      refine lv_icmp_ge (tgt := 94) hx hb dX12_hangs_11 (by decide) (fun c9 => ?_) (fun c9 => ?_)
      · have h := h.1 c9
        refine lv_iload_n hx hb dX12_hangs_94 rfl (lv_at hl 1 rfl) ?_
        exact kr _ _ _ _ _ _ hW h dX12_hangs_95
      · have h := h.2 c9
        refine lv_aload_n hx hb dX12_hangs_14 rfl (lv_at hl 0 rfl) ?_
        refine lv_iload_n hx hb dX12_hangs_15 rfl (lv_at hl 3 rfl) ?_
        refine x_calli (va_runV (As := [.int x3]) (rest := []) ⟨hx, hb, hml, hown, hts⟩ (J_X12_standsBy l hI h) (cwV 1 hts gX12_hangs_X12_standsBy rfl rfl rfl hdV_X12_standsBy ⟨Nat.le_of_ble_eq_true rfl, Nat.le_of_ble_eq_true rfl⟩) (x_preV (ci := 12) hK hZ hA hW (hI 0 (by decide)) lR_0 rfl) rfl rfl hl.1 rfl (lv_room (Nat.le_of_ble_eq_true rfl)) dX12_hangs_16 ⟨Nat.zero_le _, Nat.zero_le _⟩) hW hA (fun r11 σ10 H locs h hW => ?_)
        try dsimp only at h
        refine lv_istore (lv' := [(4, .int r11), (0, .ref (ad 0)), (1, .int x1), (2, .int x2), (3, .int x3)]) hx hb dX12_hangs_19 hl (by decide) rfl (fun ls hl => ?_)
        refine lv_iconst (v := 0) hx hb dX12_hangs_21 (by decide) ?_
        refine lv_istore (lv' := [(5, .int (0 : Int32)), (4, .int r11), (0, .ref (ad 0)), (1, .int x1), (2, .int x2), (3, .int x3)]) hx hb dX12_hangs_22 hl (by decide) rfl (fun ls hl => ?_)
        refine lv_iconst (v := 0) hx hb dX12_hangs_24 (by decide) ?_
        refine lv_istore (lv' := [(6, .int (0 : Int32)), (5, .int (0 : Int32)), (4, .int r11), (0, .ref (ad 0)), (1, .int x1), (2, .int x2), (3, .int x3)]) hx hb dX12_hangs_25 hl (by decide) rfl (fun ls hl => ?_)
        obtain ⟨n, h⟩ := h
        exact blk27  k6 hk6 x1 x2 x3 r11 n (0 : Int32) (0 : Int32) _ _ _ _ hW (lv_sub hl [3, 4, 5, 6, 2, 1, 0] rfl) h
  have main : ∀ (H : Heap) (locs : List Loc) (ls : Array Slot), xW D KA layR stR ad ids (xA ad ids s.heap.size) s.heap σ H locs → lv_has ls 7 [(0, .ref (ad 0))] → W p l e rmX12_hangs s m args below meth c H locs 0 0 Q (F0 m 0 ls []) := by
    intro H locs ls hW hl
    unfold wX12_hangs at h
    refine lv_iconst (v := (-1)) hx hb dX12_hangs_0 (by decide) ?_
    refine lv_istore_n (lv' := [(1, .int (-1 : Int32)), (0, .ref (ad 0))]) hx hb dX12_hangs_1 rfl hl (by decide) rfl (fun ls hl => ?_)
    refine lv_iconst (v := 0) hx hb dX12_hangs_2 (by decide) ?_
    refine lv_istore_n (lv' := [(2, .int (0 : Int32)), (1, .int (-1 : Int32)), (0, .ref (ad 0))]) hx hb dX12_hangs_3 rfl hl (by decide) rfl (fun ls hl => ?_)
    refine lv_iconst (v := 0) hx hb dX12_hangs_4 (by decide) ?_
    refine lv_istore_n (lv' := [(3, .int (0 : Int32)), (2, .int (0 : Int32)), (1, .int (-1 : Int32)), (0, .ref (ad 0))]) hx hb dX12_hangs_5 rfl hl (by decide) rfl (fun ls hl => ?_)
    obtain ⟨n, h⟩ := h
    exact blk6    n (-1 : Int32) (0 : Int32) (0 : Int32) _ _ _ _ hW (lv_sub hl [3, 2, 1, 0] rfl) h
  exact main _ _ _ hW hl
theorem hwX12_image_0 : (.fieldLink RX12 160 "FortyBeltsModel" "machines" "I" : Cond) ∈ wsX12_image := (List.mem_cons_of_mem _ (List.mem_append_left _ (List.mem_of_getElem? (i := 3) rfl)))
theorem hwX12_image_1 : (.fieldLink RX12 166 "FortyBeltsModel" "belts" "I" : Cond) ∈ wsX12_image := (List.mem_cons_of_mem _ (List.mem_append_left _ (List.mem_of_getElem? (i := 1) rfl)))
theorem hwX12_image_2 : (.fieldLink RX12 105 "FortyBeltsModel" "imageLoad" "[I" : Cond) ∈ wsX12_image := (List.mem_cons_of_mem _ (List.mem_append_left _ (List.mem_of_getElem? (i := 17) rfl)))
theorem hwX12_image_3 : (.fieldLink RX12 32 "FortyBeltsModel" "load" "[I" : Cond) ∈ wsX12_image := (List.mem_cons_of_mem _ (List.mem_append_left _ (List.mem_of_getElem? (i := 18) rfl)))
theorem hwX12_image_4 : (.fieldLink RX12 108 "FortyBeltsModel" "imageRun" "[I" : Cond) ∈ wsX12_image := (List.mem_cons_of_mem _ (List.mem_append_left _ (List.mem_of_getElem? (i := 19) rfl)))
theorem hwX12_image_5 : (.fieldLink RX12 44 "FortyBeltsModel" "isRun" "[I" : Cond) ∈ wsX12_image := (List.mem_cons_of_mem _ (List.mem_append_left _ (List.mem_of_getElem? (i := 20) rfl)))
theorem hwX12_image_6 : (.fieldLink RX12 96 "FortyBeltsModel" "imageA" "[I" : Cond) ∈ wsX12_image := (List.mem_cons_of_mem _ (List.mem_append_left _ (List.mem_of_getElem? (i := 11) rfl)))
theorem hwX12_image_7 : (.fieldLink RX12 59 "FortyBeltsModel" "drumA" "[I" : Cond) ∈ wsX12_image := (List.mem_cons_of_mem _ (List.mem_append_left _ (List.mem_of_getElem? (i := 12) rfl)))
theorem hwX12_image_8 : (.fieldLink RX12 99 "FortyBeltsModel" "imageB" "[I" : Cond) ∈ wsX12_image := (List.mem_cons_of_mem _ (List.mem_append_left _ (List.mem_of_getElem? (i := 13) rfl)))
theorem hwX12_image_9 : (.fieldLink RX12 62 "FortyBeltsModel" "drumB" "[I" : Cond) ∈ wsX12_image := (List.mem_cons_of_mem _ (List.mem_append_left _ (List.mem_of_getElem? (i := 14) rfl)))
theorem hwX12_image_10 : (.fieldLink RX12 102 "FortyBeltsModel" "imageOn" "[I" : Cond) ∈ wsX12_image := (List.mem_cons_of_mem _ (List.mem_append_left _ (List.mem_of_getElem? (i := 15) rfl)))
theorem hwX12_image_11 : (.fieldLink RX12 68 "FortyBeltsModel" "isOn" "[I" : Cond) ∈ wsX12_image := (List.mem_cons_of_mem _ (List.mem_append_left _ (List.mem_of_getElem? (i := 16) rfl)))
theorem hwX12_image_12 : (.fieldLink RX12 453 "FortyBeltsModel" "hasImage" "Z" : Cond) ∈ wsX12_image := (List.mem_cons_of_mem _ (List.mem_append_left _ (List.mem_of_getElem? (i := 0) rfl)))
theorem hwX12_image_13 : (.fieldLink RX12 456 "FortyBeltsModel" "imageBelts" "I" : Cond) ∈ wsX12_image := (List.mem_cons_of_mem _ (List.mem_append_left _ (List.mem_of_getElem? (i := 2) rfl)))
theorem hwX12_image_14 : (.fieldLink RX12 459 "FortyBeltsModel" "imageMachines" "I" : Cond) ∈ wsX12_image := (List.mem_cons_of_mem _ (List.mem_append_left _ (List.mem_of_getElem? (i := 4) rfl)))
theorem hwX12_image_15 : (.fieldLink RX12 145 "FortyBeltsModel" "engineTurns" "I" : Cond) ∈ wsX12_image := (List.mem_cons_of_mem _ (List.mem_append_left _ (List.mem_of_getElem? (i := 5) rfl)))
theorem hwX12_image_16 : (.fieldLink RX12 462 "FortyBeltsModel" "imageTurns" "I" : Cond) ∈ wsX12_image := (List.mem_cons_of_mem _ (List.mem_append_left _ (List.mem_of_getElem? (i := 6) rfl)))
theorem hwX12_image_17 : (.fieldLink RX12 148 "FortyBeltsModel" "power" "I" : Cond) ∈ wsX12_image := (List.mem_cons_of_mem _ (List.mem_append_left _ (List.mem_of_getElem? (i := 7) rfl)))
theorem hwX12_image_18 : (.fieldLink RX12 465 "FortyBeltsModel" "imagePower" "I" : Cond) ∈ wsX12_image := (List.mem_cons_of_mem _ (List.mem_append_left _ (List.mem_of_getElem? (i := 8) rfl)))
theorem hwX12_image_19 : (.fieldLink RX12 236 "FortyBeltsModel" "rule" "I" : Cond) ∈ wsX12_image := (List.mem_cons_of_mem _ (List.mem_append_left _ (List.mem_of_getElem? (i := 9) rfl)))
theorem hwX12_image_20 : (.fieldLink RX12 468 "FortyBeltsModel" "imageRule" "I" : Cond) ∈ wsX12_image := (List.mem_cons_of_mem _ (List.mem_append_left _ (List.mem_of_getElem? (i := 10) rfl)))
theorem hcX12_image_X12 : ∀ w ∈ wsX120, w ∈ wsX12_image := fun _ h => (List.mem_cons_of_mem _ (List.mem_append_right _ h))
set_option maxHeartbeats 4000000 in
set_option maxRecDepth 100000 in
theorem J_X12_image {D : va_G} {KA : Nat → ClassId} {zs : ZS} {ad : Nat → Nat} {ids : List Nat} {sz : Nat} (l : Launch) (hI : ∀ c, c < 35 → c ∈ ids)   {σ : St} {post : Int32 → St → Prop} (h : wX12_image   σ post) : Met l yX12_image wsX12_image rmX12_image (va_Pc [.ref (ad 0)] (xIn D KA zs layR stR ad ids sz σ)) (va_Qi post (xOut D KA layR stR ad ids) (xA ad ids sz)) 0 0 (xA ad ids sz) := by
  refine Met.ofW (cc := cX12_image) (maxL := 2) (ret := (some .int)) (by decide) rfl ?_
  intro p e s m args below meth c s₁ B hml hv
  obtain ⟨hav, hsz, hK, hZ, hP, hD⟩ := hv
  have hx := B.exec
  have hb := B.bytes
  have hr := B.returns
  have hts := atoms_spec (ws := wsX12_image) B.pre
  have hown : s.vm.findClass RX12 = some m.cls := findClass_of_methodNamed B.named
  have hlocks := B.notSynchronized
  subst hsz
  have hA : ∀ q : Nat, s.heap.size ≤ q → xA ad ids s.heap.size q := fun q h => Or.inr h
  have hW : xW D KA layR stR ad ids (xA ad ids s.heap.size) s.heap σ s.heap [] := ⟨hP, xA_D (D := D) hD, va_S.rf⟩
  have kr : ∀ (v : Int32) (σ : St) (H : Heap) (locs : List Loc) (ls : Array Slot) (pc : Nat), xW D KA layR stR ad ids (xA ad ids s.heap.size) s.heap σ H locs → post v σ → decode cX12_image pc = .ok (.ireturn, 1) → W p l e rmX12_image s m args below meth c H locs 0 0 (MQ below (va_Qi post (xOut D KA layR stR ad ids) (xA ad ids s.heap.size)) args s 0 0 (xA ad ids s.heap.size)) (F0 m pc ls [.int v]) := fun v σ H locs ls pc hW h hd => x_iret hx hb hr hlocks hW h hd
  have hl := lv_entry ([.ref (ad 0)]) (n := 2) (Nat.le_of_ble_eq_true rfl)
  rw [show entryFrame m args 2 = entryFrame m ([.ref (ad 0)] : List Value).toArray 2 from by rw [hav]]
  rw [lg_entry_eq]
  generalize (lg_sl ([.ref (ad 0)]) ++ List.replicate (2 - (lg_sl ([.ref (ad 0)])).length) Slot.unset).toArray = ls at hl ⊢
  have hl : lv_has ls 2 [(0, .ref (ad 0))] := hl
  show W p l e rmX12_image s m args below meth c s.heap [] 0 0 _ _
  generalize MQ below (va_Qi post (xOut D KA layR stR ad ids) (xA ad ids s.heap.size)) args s 0 0 (xA ad ids s.heap.size) = Q at kr ⊢
  have blk99 : ∀ (n : Nat) (x1 : Int32) (σ : St) (H : Heap) (locs : List Loc) (ls : Array Slot), xW D KA layR stR ad ids (xA ad ids s.heap.size) s.heap σ H locs → lv_has ls 2 [(0, .ref (ad 0)), (1, .int x1)] → wX12_image_99 post  n x1 σ → W p l e rmX12_image s m args below meth c H locs 0 0 Q (F0 m 99 ls []) := by
    intro    n
    induction n with
    | zero => intro x1 σ H locs ls hW hl h; exact (h : False).elim
    | succ n ih =>
      intro x1 σ H locs ls hW hl h
      have hk99 : ∀ (x1 : Int32) (σ : St) (H : Heap) (locs : List Loc) (ls : Array Slot), xW D KA layR stR ad ids (xA ad ids s.heap.size) s.heap σ H locs → lv_has ls 2 [(0, .ref (ad 0)), (1, .int x1)] → (wX12_image_99 post  n) x1 σ → W p l e rmX12_image s m args below meth c H locs 0 0 Q (F0 m 99 ls []) := fun x1 σ H locs ls hW hl h => ih x1 σ H locs ls hW hl h
      rw [wX12_image_99_s] at h
      try dsimp only at h
      generalize wX12_image_99 post  n = k99 at h hk99
      refine lv_iload_n hx hb dX12_image_99 rfl (lv_at hl 1 rfl) ?_
      refine lv_aload_n hx hb dX12_image_100 rfl (lv_at hl 0 rfl) ?_
      refine xgX12_18 hx hb hts hown hK hW 0 hcX12_image_X12 (hI 0 (by decide)) lR_0 (hts _ hwX12_image_0) dX12_image_101 ?_
      refine lv_icmp_ge (tgt := 137) hx hb dX12_image_104 (by decide) (fun c1 => ?_) (fun c1 => ?_)
      · have h := h.1 c1
        refine lv_aload_n hx hb dX12_image_137 rfl (lv_at hl 0 rfl) ?_
        refine xgX12_28 hx hb hts hown hK hW 0 hcX12_image_X12 (hI 0 (by decide)) lR_0 (hts _ hwX12_image_1) dX12_image_138 ?_
        exact kr _ _ _ _ _ _ hW h dX12_image_141
      · have h := h.2 c1
        refine lv_aload_n hx hb dX12_image_107 rfl (lv_at hl 0 rfl) ?_
        refine xgX12_59r hx hb hts hown hK hW 0 hcX12_image_X12 (hI 0 (by decide)) lR_0 (hts _ hwX12_image_2) (sR_0_59 _) dX12_image_108 ?_
        refine lv_iload_n hx hb dX12_image_111 rfl (lv_at hl 1 rfl) ?_
        refine lv_aload_n hx hb dX12_image_112 rfl (lv_at hl 0 rfl) ?_
        refine xgX12_13r hx hb hts hown hK hW 0 hcX12_image_X12 (hI 0 (by decide)) lR_0 (hts _ hwX12_image_3) (sR_0_13 _) dX12_image_113 ?_
        refine lv_iload_n hx hb dX12_image_116 rfl (lv_at hl 1 rfl) ?_
        obtain ⟨hi2, h⟩ := h
        refine x_iald hx hb hK hW 7 (hI 7 (by decide)) lR_7 hi2 dX12_image_117 ?_
        refine x_iast hx hb hK hW 29 (hI 29 (by decide)) lR_29 hi2 dX12_image_118 (fun σ4 H locs hσ4 hW => ?_)
        have h := h σ4 hσ4
        refine lv_aload_n hx hb dX12_image_119 rfl (lv_at hl 0 rfl) ?_
        refine xgX12_60r hx hb hts hown hK hW 0 hcX12_image_X12 (hI 0 (by decide)) lR_0 (hts _ hwX12_image_4) (sR_0_60 _) dX12_image_120 ?_
        refine lv_iload_n hx hb dX12_image_123 rfl (lv_at hl 1 rfl) ?_
        refine lv_aload_n hx hb dX12_image_124 rfl (lv_at hl 0 rfl) ?_
        refine xgX12_17r hx hb hts hown hK hW 0 hcX12_image_X12 (hI 0 (by decide)) lR_0 (hts _ hwX12_image_5) (sR_0_17 _) dX12_image_125 ?_
        refine lv_iload_n hx hb dX12_image_128 rfl (lv_at hl 1 rfl) ?_
        refine x_iald hx hb hK hW 11 (hI 11 (by decide)) lR_11 hi2 dX12_image_129 ?_
        refine x_iast hx hb hK hW 30 (hI 30 (by decide)) lR_30 hi2 dX12_image_130 (fun σ7 H locs hσ7 hW => ?_)
        have h := h σ7 hσ7
        obtain ⟨v8, hv8⟩ : ∃ y : Int32, y = x1 + (1 : Int32) := ⟨_, rfl⟩
        have h := h v8 hv8
        refine lv_iinc (v := v8) (lv' := [(1, .int v8), (0, .ref (ad 0))]) hx hb dX12_image_131 hl (k := 1) rfl (by rw [hv8]; rfl) (by decide) rfl (fun ls hl => ?_)
        refine lv_goto (tgt := 99) hx hb dX12_image_134 (by decide) ?_
        exact hk99 v8 _ _ _ _ hW (lv_sub hl [1, 0] rfl) h
  have blk47 : ∀ (n : Nat) (x1 : Int32) (σ : St) (H : Heap) (locs : List Loc) (ls : Array Slot), xW D KA layR stR ad ids (xA ad ids s.heap.size) s.heap σ H locs → lv_has ls 2 [(0, .ref (ad 0)), (1, .int x1)] → wX12_image_47 post  n x1 σ → W p l e rmX12_image s m args below meth c H locs 0 0 Q (F0 m 47 ls []) := by
    intro    n
    induction n with
    | zero => intro x1 σ H locs ls hW hl h; exact (h : False).elim
    | succ n ih =>
      intro x1 σ H locs ls hW hl h
      have hk47 : ∀ (x1 : Int32) (σ : St) (H : Heap) (locs : List Loc) (ls : Array Slot), xW D KA layR stR ad ids (xA ad ids s.heap.size) s.heap σ H locs → lv_has ls 2 [(0, .ref (ad 0)), (1, .int x1)] → (wX12_image_47 post  n) x1 σ → W p l e rmX12_image s m args below meth c H locs 0 0 Q (F0 m 47 ls []) := fun x1 σ H locs ls hW hl h => ih x1 σ H locs ls hW hl h
      rw [wX12_image_47_s] at h
      try dsimp only at h
      generalize wX12_image_47 post  n = k47 at h hk47
      refine lv_iload_n hx hb dX12_image_47 rfl (lv_at hl 1 rfl) ?_
      refine lv_aload_n hx hb dX12_image_48 rfl (lv_at hl 0 rfl) ?_
      refine xgX12_28 hx hb hts hown hK hW 0 hcX12_image_X12 (hI 0 (by decide)) lR_0 (hts _ hwX12_image_1) dX12_image_49 ?_
      refine lv_icmp_ge (tgt := 97) hx hb dX12_image_52 (by decide) (fun c9 => ?_) (fun c9 => ?_)
      · have h := h.1 c9
        refine lv_iconst (v := 0) hx hb dX12_image_97 (by decide) ?_
        refine lv_istore_n (lv' := [(1, .int (0 : Int32)), (0, .ref (ad 0))]) hx hb dX12_image_98 rfl hl (by decide) rfl (fun ls hl => ?_)
        obtain ⟨n, h⟩ := h
        exact blk99    n (0 : Int32) _ _ _ _ hW (lv_sub hl [1, 0] rfl) h
      · have h := h.2 c9
        refine lv_aload_n hx hb dX12_image_55 rfl (lv_at hl 0 rfl) ?_
        refine xgX12_56r hx hb hts hown hK hW 0 hcX12_image_X12 (hI 0 (by decide)) lR_0 (hts _ hwX12_image_6) (sR_0_56 _) dX12_image_56 ?_
        refine lv_iload_n hx hb dX12_image_59 rfl (lv_at hl 1 rfl) ?_
        refine lv_aload_n hx hb dX12_image_60 rfl (lv_at hl 0 rfl) ?_
        refine xgX12_24r hx hb hts hown hK hW 0 hcX12_image_X12 (hI 0 (by decide)) lR_0 (hts _ hwX12_image_7) (sR_0_24 _) dX12_image_61 ?_
        refine lv_iload_n hx hb dX12_image_64 rfl (lv_at hl 1 rfl) ?_
        obtain ⟨hi11, h⟩ := h
        refine x_iald hx hb hK hW 16 (hI 16 (by decide)) lR_16 hi11 dX12_image_65 ?_
        refine x_iast hx hb hK hW 26 (hI 26 (by decide)) lR_26 hi11 dX12_image_66 (fun σ13 H locs hσ13 hW => ?_)
        have h := h σ13 hσ13
        refine lv_aload_n hx hb dX12_image_67 rfl (lv_at hl 0 rfl) ?_
        refine xgX12_57r hx hb hts hown hK hW 0 hcX12_image_X12 (hI 0 (by decide)) lR_0 (hts _ hwX12_image_8) (sR_0_57 _) dX12_image_68 ?_
        refine lv_iload_n hx hb dX12_image_71 rfl (lv_at hl 1 rfl) ?_
        refine lv_aload_n hx hb dX12_image_72 rfl (lv_at hl 0 rfl) ?_
        refine xgX12_25r hx hb hts hown hK hW 0 hcX12_image_X12 (hI 0 (by decide)) lR_0 (hts _ hwX12_image_9) (sR_0_25 _) dX12_image_73 ?_
        refine lv_iload_n hx hb dX12_image_76 rfl (lv_at hl 1 rfl) ?_
        refine x_iald hx hb hK hW 17 (hI 17 (by decide)) lR_17 hi11 dX12_image_77 ?_
        refine x_iast hx hb hK hW 27 (hI 27 (by decide)) lR_27 hi11 dX12_image_78 (fun σ16 H locs hσ16 hW => ?_)
        have h := h σ16 hσ16
        refine lv_aload_n hx hb dX12_image_79 rfl (lv_at hl 0 rfl) ?_
        refine xgX12_58r hx hb hts hown hK hW 0 hcX12_image_X12 (hI 0 (by decide)) lR_0 (hts _ hwX12_image_10) (sR_0_58 _) dX12_image_80 ?_
        refine lv_iload_n hx hb dX12_image_83 rfl (lv_at hl 1 rfl) ?_
        refine lv_aload_n hx hb dX12_image_84 rfl (lv_at hl 0 rfl) ?_
        refine xgX12_27r hx hb hts hown hK hW 0 hcX12_image_X12 (hI 0 (by decide)) lR_0 (hts _ hwX12_image_11) (sR_0_27 _) dX12_image_85 ?_
        refine lv_iload_n hx hb dX12_image_88 rfl (lv_at hl 1 rfl) ?_
        refine x_iald hx hb hK hW 19 (hI 19 (by decide)) lR_19 hi11 dX12_image_89 ?_
        refine x_iast hx hb hK hW 28 (hI 28 (by decide)) lR_28 hi11 dX12_image_90 (fun σ19 H locs hσ19 hW => ?_)
        have h := h σ19 hσ19
        obtain ⟨v20, hv20⟩ : ∃ y : Int32, y = x1 + (1 : Int32) := ⟨_, rfl⟩
        have h := h v20 hv20
        refine lv_iinc (v := v20) (lv' := [(1, .int v20), (0, .ref (ad 0))]) hx hb dX12_image_91 hl (k := 1) rfl (by rw [hv20]; rfl) (by decide) rfl (fun ls hl => ?_)
        refine lv_goto (tgt := 47) hx hb dX12_image_94 (by decide) ?_
        exact hk47 v20 _ _ _ _ hW (lv_sub hl [1, 0] rfl) h
  have main : ∀ (H : Heap) (locs : List Loc) (ls : Array Slot), xW D KA layR stR ad ids (xA ad ids s.heap.size) s.heap σ H locs → lv_has ls 2 [(0, .ref (ad 0))] → W p l e rmX12_image s m args below meth c H locs 0 0 Q (F0 m 0 ls []) := by
    intro H locs ls hW hl
    unfold wX12_image at h
    refine lv_aload_n hx hb dX12_image_0 rfl (lv_at hl 0 rfl) ?_
    refine lv_iconst (v := 1) hx hb dX12_image_1 (by decide) ?_
    refine xpX12_61 hx hb hts hown hK hW 0 hcX12_image_X12 (hI 0 (by decide)) lR_0 (hts _ hwX12_image_12) isB_1 dX12_image_2 (fun σ1001 H locs hσ1001 hW => ?_)
    have h := h σ1001 hσ1001
    refine lv_aload_n hx hb dX12_image_5 rfl (lv_at hl 0 rfl) ?_
    refine lv_aload_n hx hb dX12_image_6 rfl (lv_at hl 0 rfl) ?_
    refine xgX12_28 hx hb hts hown hK hW 0 hcX12_image_X12 (hI 0 (by decide)) lR_0 (hts _ hwX12_image_1) dX12_image_7 ?_
    refine xpX12_62 hx hb hts hown hK hW 0 hcX12_image_X12 (hI 0 (by decide)) lR_0 (hts _ hwX12_image_13) dX12_image_10 (fun σ1002 H locs hσ1002 hW => ?_)
    have h := h σ1002 hσ1002
    refine lv_aload_n hx hb dX12_image_13 rfl (lv_at hl 0 rfl) ?_
    refine lv_aload_n hx hb dX12_image_14 rfl (lv_at hl 0 rfl) ?_
    refine xgX12_18 hx hb hts hown hK hW 0 hcX12_image_X12 (hI 0 (by decide)) lR_0 (hts _ hwX12_image_0) dX12_image_15 ?_
    refine xpX12_63 hx hb hts hown hK hW 0 hcX12_image_X12 (hI 0 (by decide)) lR_0 (hts _ hwX12_image_14) dX12_image_18 (fun σ1003 H locs hσ1003 hW => ?_)
    have h := h σ1003 hσ1003
    refine lv_aload_n hx hb dX12_image_21 rfl (lv_at hl 0 rfl) ?_
    refine lv_aload_n hx hb dX12_image_22 rfl (lv_at hl 0 rfl) ?_
    refine xgX12_10 hx hb hts hown hK hW 0 hcX12_image_X12 (hI 0 (by decide)) lR_0 (hts _ hwX12_image_15) dX12_image_23 ?_
    refine xpX12_64 hx hb hts hown hK hW 0 hcX12_image_X12 (hI 0 (by decide)) lR_0 (hts _ hwX12_image_16) dX12_image_26 (fun σ1004 H locs hσ1004 hW => ?_)
    have h := h σ1004 hσ1004
    refine lv_aload_n hx hb dX12_image_29 rfl (lv_at hl 0 rfl) ?_
    refine lv_aload_n hx hb dX12_image_30 rfl (lv_at hl 0 rfl) ?_
    refine xgX12_11 hx hb hts hown hK hW 0 hcX12_image_X12 (hI 0 (by decide)) lR_0 (hts _ hwX12_image_17) dX12_image_31 ?_
    refine xpX12_65 hx hb hts hown hK hW 0 hcX12_image_X12 (hI 0 (by decide)) lR_0 (hts _ hwX12_image_18) dX12_image_34 (fun σ1005 H locs hσ1005 hW => ?_)
    have h := h σ1005 hσ1005
    refine lv_aload_n hx hb dX12_image_37 rfl (lv_at hl 0 rfl) ?_
    refine lv_aload_n hx hb dX12_image_38 rfl (lv_at hl 0 rfl) ?_
    refine xgX12_4 hx hb hts hown hK hW 0 hcX12_image_X12 (hI 0 (by decide)) lR_0 (hts _ hwX12_image_19) dX12_image_39 ?_
    refine xpX12_66 hx hb hts hown hK hW 0 hcX12_image_X12 (hI 0 (by decide)) lR_0 (hts _ hwX12_image_20) dX12_image_42 (fun σ1006 H locs hσ1006 hW => ?_)
    have h := h σ1006 hσ1006
    refine lv_iconst (v := 0) hx hb dX12_image_45 (by decide) ?_
    refine lv_istore_n (lv' := [(1, .int (0 : Int32)), (0, .ref (ad 0))]) hx hb dX12_image_46 rfl hl (by decide) rfl (fun ls hl => ?_)
    obtain ⟨n, h⟩ := h
    exact blk47    n (0 : Int32) _ _ _ _ hW (lv_sub hl [1, 0] rfl) h
  exact main _ _ _ hW hl
theorem hwX12_spell_0 : (.fieldLink RX12 13 "FortyBeltsModel" "texts" "[I" : Cond) ∈ wsX12_spell := (List.mem_cons_of_mem _ (List.mem_append_left _ (List.mem_of_getElem? (i := 0) rfl)))
theorem hwX12_spell_1 : (.constantLong RX12 151 (255) : Cond) ∈ wsX12_spell := (List.mem_cons_of_mem _ (List.mem_append_left _ (List.mem_of_getElem? (i := 1) rfl)))
theorem hcX12_spell_X12 : ∀ w ∈ wsX120, w ∈ wsX12_spell := fun _ h => (List.mem_cons_of_mem _ (List.mem_append_right _ h))
set_option maxHeartbeats 4000000 in
set_option maxRecDepth 100000 in
theorem J_X12_spell {D : va_G} {KA : Nat → ClassId} {zs : ZS} {ad : Nat → Nat} {ids : List Nat} {sz : Nat} (l : Launch) (hI : ∀ c, c < 35 → c ∈ ids) {a1 : Int32} {a2 : Int64}  {σ : St} {post : St → Prop} (h : wX12_spell  a1 a2 σ post) : Met l yX12_spell wsX12_spell rmX12_spell (va_Pc [.ref (ad 0), .int a1, .long a2] (xIn D KA zs layR stR ad ids sz σ)) (va_Qv post (xOut D KA layR stR ad ids) (xA ad ids sz)) 0 0 (xA ad ids sz) := by
  refine Met.ofW (cc := cX12_spell) (maxL := 5) (ret := none) (by decide) rfl ?_
  intro p e s m args below meth c s₁ B hml hv
  obtain ⟨hav, hsz, hK, hZ, hP, hD⟩ := hv
  have hx := B.exec
  have hb := B.bytes
  have hr := B.returns
  have hts := atoms_spec (ws := wsX12_spell) B.pre
  have hown : s.vm.findClass RX12 = some m.cls := findClass_of_methodNamed B.named
  have hlocks := B.notSynchronized
  subst hsz
  have hA : ∀ q : Nat, s.heap.size ≤ q → xA ad ids s.heap.size q := fun q h => Or.inr h
  have hW : xW D KA layR stR ad ids (xA ad ids s.heap.size) s.heap σ s.heap [] := ⟨hP, xA_D (D := D) hD, va_S.rf⟩
  have kr : ∀ (σ : St) (H : Heap) (locs : List Loc) (ls : Array Slot) (pc : Nat), xW D KA layR stR ad ids (xA ad ids s.heap.size) s.heap σ H locs → post σ → decode cX12_spell pc = .ok (.return_, 1) → W p l e rmX12_spell s m args below meth c H locs 0 0 (MQ below (va_Qv post (xOut D KA layR stR ad ids) (xA ad ids s.heap.size)) args s 0 0 (xA ad ids s.heap.size)) (F0 m pc ls []) := fun σ H locs ls pc hW h hd => x_vret hx hb hr hlocks hW h hd
  have hl := lv_entry ([.ref (ad 0), .int a1, .long a2]) (n := 5) (Nat.le_of_ble_eq_true rfl)
  rw [show entryFrame m args 5 = entryFrame m ([.ref (ad 0), .int a1, .long a2] : List Value).toArray 5 from by rw [hav]]
  rw [lg_entry_eq]
  generalize (lg_sl ([.ref (ad 0), .int a1, .long a2]) ++ List.replicate (5 - (lg_sl ([.ref (ad 0), .int a1, .long a2])).length) Slot.unset).toArray = ls at hl ⊢
  have hl : lv_has ls 5 [(0, .ref (ad 0)), (1, .int a1), (2, .long a2)] := hl
  show W p l e rmX12_spell s m args below meth c s.heap [] 0 0 _ _
  generalize MQ below (va_Qv post (xOut D KA layR stR ad ids) (xA ad ids s.heap.size)) args s 0 0 (xA ad ids s.heap.size) = Q at kr ⊢
  have blk3 : ∀ (x1 : Int32) (x2 : Int64) (n : Nat) (x4 : Int32) (σ : St) (H : Heap) (locs : List Loc) (ls : Array Slot), xW D KA layR stR ad ids (xA ad ids s.heap.size) s.heap σ H locs → lv_has ls 5 [(0, .ref (ad 0)), (1, .int x1), (2, .long x2), (4, .int x4)] → wX12_spell_3 post x1 x2 n x4 σ → W p l e rmX12_spell s m args below meth c H locs 0 0 Q (F0 m 3 ls []) := by
    intro   x1 x2 n
    induction n with
    | zero => intro x4 σ H locs ls hW hl h; exact (h : False).elim
    | succ n ih =>
      intro x4 σ H locs ls hW hl h
      have hk3 : ∀ (x4 : Int32) (σ : St) (H : Heap) (locs : List Loc) (ls : Array Slot), xW D KA layR stR ad ids (xA ad ids s.heap.size) s.heap σ H locs → lv_has ls 5 [(0, .ref (ad 0)), (1, .int x1), (2, .long x2), (4, .int x4)] → (wX12_spell_3 post x1 x2 n) x4 σ → W p l e rmX12_spell s m args below meth c H locs 0 0 Q (F0 m 3 ls []) := fun x4 σ H locs ls hW hl h => ih x4 σ H locs ls hW hl h
      rw [wX12_spell_3_s] at h
      try dsimp only at h
      generalize wX12_spell_3 post x1 x2 n = k3 at h hk3
      refine lv_iload hx hb dX12_spell_3 (lv_at hl 3 rfl) ?_
      refine lv_bipush (v := 8) hx hb dX12_spell_5 (by decide) ?_
      refine lv_icmp_ge (tgt := 40) hx hb dX12_spell_7 (by decide) (fun c1 => ?_) (fun c1 => ?_)
      · have h := h.1 c1
        exact kr _ _ _ _ _ hW h dX12_spell_40
      · have h := h.2 c1
        refine lv_aload_n hx hb dX12_spell_10 rfl (lv_at hl 0 rfl) ?_
        refine xgX12_1r hx hb hts hown hK hW 0 hcX12_spell_X12 (hI 0 (by decide)) lR_0 (hts _ hwX12_spell_0) (sR_0_1 _) dX12_spell_11 ?_
        refine lv_iload_n hx hb dX12_spell_14 rfl (lv_at hl 1 rfl) ?_
        refine lv_iload hx hb dX12_spell_15 (lv_at hl 3 rfl) ?_
        refine lv_iadd hx hb dX12_spell_17 ?_
        refine lv_lload_n hx hb dX12_spell_18 rfl (lv_at hl 2 rfl) ?_
        refine lv_bipush (v := 56) hx hb dX12_spell_19 (by decide) ?_
        refine lv_bipush (v := 8) hx hb dX12_spell_21 (by decide) ?_
        refine lv_iload hx hb dX12_spell_23 (lv_at hl 3 rfl) ?_
        refine lv_imul hx hb dX12_spell_25 ?_
        refine lv_isub hx hb dX12_spell_26 ?_
        refine lv_lshr hx hb dX12_spell_27 rfl ?_
        refine lv_ldc2 hx hb hown (hts _ hwX12_spell_1) dX12_spell_28 ?_
        refine lv_land hx hb dX12_spell_31 ?_
        refine lv_l2i hx hb dX12_spell_32 rfl ?_
        obtain ⟨hi2, h⟩ := h
        refine x_iast hx hb hK hW 1 (hI 1 (by decide)) lR_1 hi2 dX12_spell_33 (fun σ3 H locs hσ3 hW => ?_)
        have h := h σ3 hσ3
        obtain ⟨v4, hv4⟩ : ∃ y : Int32, y = x4 + (1 : Int32) := ⟨_, rfl⟩
        have h := h v4 hv4
        refine lv_iinc (v := v4) (lv' := [(4, .int v4), (0, .ref (ad 0)), (1, .int x1), (2, .long x2)]) hx hb dX12_spell_34 hl (k := 3) rfl (by rw [hv4]; rfl) (by decide) rfl (fun ls hl => ?_)
        refine lv_goto (tgt := 3) hx hb dX12_spell_37 (by decide) ?_
        exact hk3 v4 _ _ _ _ hW (lv_sub hl [1, 2, 3, 0] rfl) h
  have main : ∀ (H : Heap) (locs : List Loc) (ls : Array Slot), xW D KA layR stR ad ids (xA ad ids s.heap.size) s.heap σ H locs → lv_has ls 5 [(0, .ref (ad 0)), (1, .int a1), (2, .long a2)] → W p l e rmX12_spell s m args below meth c H locs 0 0 Q (F0 m 0 ls []) := by
    intro H locs ls hW hl
    unfold wX12_spell at h
    refine lv_iconst (v := 0) hx hb dX12_spell_0 (by decide) ?_
    refine lv_istore (lv' := [(4, .int (0 : Int32)), (0, .ref (ad 0)), (1, .int a1), (2, .long a2)]) hx hb dX12_spell_1 hl (by decide) rfl (fun ls hl => ?_)
    obtain ⟨n, h⟩ := h
    exact blk3   a1 a2 n (0 : Int32) _ _ _ _ hW (lv_sub hl [1, 2, 3, 0] rfl) h
  exact main _ _ _ hW hl
theorem hwX12_init_0 : (.methodLink RX12 7 objectInit : Cond) ∈ wsX12_init := (List.mem_cons_of_mem _ (List.mem_append_left _ (List.mem_append_left _ (List.mem_of_getElem? (i := 0) rfl))))
theorem hwX12_init_1 : (.instanceMethod objectInit : Cond) ∈ wsX12_init := (List.mem_cons_of_mem _ (List.mem_append_left _ (List.mem_append_left _ (List.mem_of_getElem? (i := 1) rfl))))
theorem hwX12_init_2 : (.code objectInit ⟨#[0xb1]⟩ 1 none : Cond) ∈ wsX12_init := (List.mem_cons_of_mem _ (List.mem_append_left _ (List.mem_append_left _ (List.mem_of_getElem? (i := 2) rfl))))
theorem hwX12_init_3 : (.arrayClass .int : Cond) ∈ wsX12_init := (List.mem_cons_of_mem _ (List.mem_append_left _ (List.mem_append_left _ (List.mem_of_getElem? (i := 3) rfl))))
theorem hwX12_init_4 : (.fieldLink RX12 13 "FortyBeltsModel" "texts" "[I" : Cond) ∈ wsX12_init := (List.mem_cons_of_mem _ (List.mem_append_left _ (List.mem_append_left _ (List.mem_of_getElem? (i := 4) rfl))))
theorem hwX12_init_5 : (.fieldLink RX12 17 "FortyBeltsModel" "textSize" "[I" : Cond) ∈ wsX12_init := (List.mem_cons_of_mem _ (List.mem_append_left _ (List.mem_append_left _ (List.mem_of_getElem? (i := 5) rfl))))
theorem hwX12_init_6 : (.fieldLink RX12 20 "FortyBeltsModel" "tape" "[I" : Cond) ∈ wsX12_init := (List.mem_cons_of_mem _ (List.mem_append_left _ (List.mem_append_left _ (List.mem_of_getElem? (i := 6) rfl))))
theorem hwX12_init_7 : (.fieldLink RX12 23 "FortyBeltsModel" "place" "[I" : Cond) ∈ wsX12_init := (List.mem_cons_of_mem _ (List.mem_append_left _ (List.mem_append_left _ (List.mem_of_getElem? (i := 7) rfl))))
theorem hwX12_init_8 : (.fieldLink RX12 26 "FortyBeltsModel" "bends" "[I" : Cond) ∈ wsX12_init := (List.mem_cons_of_mem _ (List.mem_append_left _ (List.mem_append_left _ (List.mem_of_getElem? (i := 8) rfl))))
theorem hwX12_init_9 : (.fieldLink RX12 29 "FortyBeltsModel" "shaftOf" "[I" : Cond) ∈ wsX12_init := (List.mem_cons_of_mem _ (List.mem_append_left _ (List.mem_append_left _ (List.mem_of_getElem? (i := 9) rfl))))
theorem hwX12_init_10 : (.fieldLink RX12 32 "FortyBeltsModel" "load" "[I" : Cond) ∈ wsX12_init := (List.mem_cons_of_mem _ (List.mem_append_left _ (List.mem_append_left _ (List.mem_of_getElem? (i := 10) rfl))))
theorem hwX12_init_11 : (.fieldLink RX12 35 "FortyBeltsModel" "wantsFrom" "[I" : Cond) ∈ wsX12_init := (List.mem_cons_of_mem _ (List.mem_append_left _ (List.mem_append_left _ (List.mem_of_getElem? (i := 11) rfl))))
theorem hwX12_init_12 : (.fieldLink RX12 38 "FortyBeltsModel" "wantsTo" "[I" : Cond) ∈ wsX12_init := (List.mem_cons_of_mem _ (List.mem_append_left _ (List.mem_append_left _ (List.mem_of_getElem? (i := 12) rfl))))
theorem hwX12_init_13 : (.fieldLink RX12 41 "FortyBeltsModel" "hours" "[I" : Cond) ∈ wsX12_init := (List.mem_cons_of_mem _ (List.mem_append_left _ (List.mem_append_left _ (List.mem_of_getElem? (i := 13) rfl))))
theorem hwX12_init_14 : (.fieldLink RX12 44 "FortyBeltsModel" "isRun" "[I" : Cond) ∈ wsX12_init := (List.mem_cons_of_mem _ (List.mem_append_left _ (List.mem_append_left _ (List.mem_of_getElem? (i := 14) rfl))))
theorem hwX12_init_15 : (.fieldLink RX12 47 "FortyBeltsModel" "drumSize" "[I" : Cond) ∈ wsX12_init := (List.mem_cons_of_mem _ (List.mem_append_left _ (List.mem_append_left _ (List.mem_of_getElem? (i := 15) rfl))))
theorem hwX12_init_16 : (.fieldLink RX12 50 "FortyBeltsModel" "kind" "[I" : Cond) ∈ wsX12_init := (List.mem_cons_of_mem _ (List.mem_append_left _ (List.mem_append_left _ (List.mem_of_getElem? (i := 16) rfl))))
theorem hwX12_init_17 : (.fieldLink RX12 53 "FortyBeltsModel" "driver" "[I" : Cond) ∈ wsX12_init := (List.mem_cons_of_mem _ (List.mem_append_left _ (List.mem_append_left _ (List.mem_of_getElem? (i := 17) rfl))))
theorem hwX12_init_18 : (.fieldLink RX12 56 "FortyBeltsModel" "driven" "[I" : Cond) ∈ wsX12_init := (List.mem_cons_of_mem _ (List.mem_append_left _ (List.mem_append_left _ (List.mem_of_getElem? (i := 18) rfl))))
theorem hwX12_init_19 : (.fieldLink RX12 59 "FortyBeltsModel" "drumA" "[I" : Cond) ∈ wsX12_init := (List.mem_cons_of_mem _ (List.mem_append_left _ (List.mem_append_left _ (List.mem_of_getElem? (i := 19) rfl))))
theorem hwX12_init_20 : (.fieldLink RX12 62 "FortyBeltsModel" "drumB" "[I" : Cond) ∈ wsX12_init := (List.mem_cons_of_mem _ (List.mem_append_left _ (List.mem_append_left _ (List.mem_of_getElem? (i := 20) rfl))))
theorem hwX12_init_21 : (.fieldLink RX12 65 "FortyBeltsModel" "grip" "[I" : Cond) ∈ wsX12_init := (List.mem_cons_of_mem _ (List.mem_append_left _ (List.mem_append_left _ (List.mem_of_getElem? (i := 21) rfl))))
theorem hwX12_init_22 : (.fieldLink RX12 68 "FortyBeltsModel" "isOn" "[I" : Cond) ∈ wsX12_init := (List.mem_cons_of_mem _ (List.mem_append_left _ (List.mem_append_left _ (List.mem_of_getElem? (i := 22) rfl))))
theorem hwX12_init_23 : (.fieldLink RX12 71 "FortyBeltsModel" "cutBelt" "I" : Cond) ∈ wsX12_init := (List.mem_cons_of_mem _ (List.mem_append_left _ (List.mem_append_left _ (List.mem_of_getElem? (i := 23) rfl))))
theorem hwX12_init_24 : (.arrayClass .long : Cond) ∈ wsX12_init := (List.mem_cons_of_mem _ (List.mem_append_left _ (List.mem_append_right _ (List.mem_append_left _ (List.mem_of_getElem? (i := 0) rfl)))))
theorem hwX12_init_25 : (.fieldLink RX12 74 "FortyBeltsModel" "above" "[J" : Cond) ∈ wsX12_init := (List.mem_cons_of_mem _ (List.mem_append_left _ (List.mem_append_right _ (List.mem_append_left _ (List.mem_of_getElem? (i := 1) rfl)))))
theorem hwX12_init_26 : (.fieldLink RX12 78 "FortyBeltsModel" "below" "[J" : Cond) ∈ wsX12_init := (List.mem_cons_of_mem _ (List.mem_append_left _ (List.mem_append_right _ (List.mem_append_left _ (List.mem_of_getElem? (i := 2) rfl)))))
theorem hwX12_init_27 : (.fieldLink RX12 81 "FortyBeltsModel" "ways" "[I" : Cond) ∈ wsX12_init := (List.mem_cons_of_mem _ (List.mem_append_left _ (List.mem_append_right _ (List.mem_append_left _ (List.mem_of_getElem? (i := 3) rfl)))))
theorem hwX12_init_28 : (.fieldLink RX12 84 "FortyBeltsModel" "moreAt" "I" : Cond) ∈ wsX12_init := (List.mem_cons_of_mem _ (List.mem_append_left _ (List.mem_append_right _ (List.mem_append_left _ (List.mem_of_getElem? (i := 4) rfl)))))
theorem hwX12_init_29 : (.fieldLink RX12 87 "FortyBeltsModel" "had" "[I" : Cond) ∈ wsX12_init := (List.mem_cons_of_mem _ (List.mem_append_left _ (List.mem_append_right _ (List.mem_append_left _ (List.mem_of_getElem? (i := 5) rfl)))))
theorem hwX12_init_30 : (.fieldLink RX12 90 "FortyBeltsModel" "bestDrum" "[I" : Cond) ∈ wsX12_init := (List.mem_cons_of_mem _ (List.mem_append_left _ (List.mem_append_right _ (List.mem_append_left _ (List.mem_of_getElem? (i := 6) rfl)))))
theorem hwX12_init_31 : (.fieldLink RX12 93 "FortyBeltsModel" "wasOn" "[I" : Cond) ∈ wsX12_init := (List.mem_cons_of_mem _ (List.mem_append_left _ (List.mem_append_right _ (List.mem_append_left _ (List.mem_of_getElem? (i := 7) rfl)))))
theorem hwX12_init_32 : (.fieldLink RX12 96 "FortyBeltsModel" "imageA" "[I" : Cond) ∈ wsX12_init := (List.mem_cons_of_mem _ (List.mem_append_left _ (List.mem_append_right _ (List.mem_append_left _ (List.mem_of_getElem? (i := 8) rfl)))))
theorem hwX12_init_33 : (.fieldLink RX12 99 "FortyBeltsModel" "imageB" "[I" : Cond) ∈ wsX12_init := (List.mem_cons_of_mem _ (List.mem_append_left _ (List.mem_append_right _ (List.mem_append_left _ (List.mem_of_getElem? (i := 9) rfl)))))
theorem hwX12_init_34 : (.fieldLink RX12 102 "FortyBeltsModel" "imageOn" "[I" : Cond) ∈ wsX12_init := (List.mem_cons_of_mem _ (List.mem_append_left _ (List.mem_append_right _ (List.mem_append_left _ (List.mem_of_getElem? (i := 10) rfl)))))
theorem hwX12_init_35 : (.fieldLink RX12 105 "FortyBeltsModel" "imageLoad" "[I" : Cond) ∈ wsX12_init := (List.mem_cons_of_mem _ (List.mem_append_left _ (List.mem_append_right _ (List.mem_append_left _ (List.mem_of_getElem? (i := 11) rfl)))))
theorem hwX12_init_36 : (.fieldLink RX12 108 "FortyBeltsModel" "imageRun" "[I" : Cond) ∈ wsX12_init := (List.mem_cons_of_mem _ (List.mem_append_left _ (List.mem_append_right _ (List.mem_append_left _ (List.mem_of_getElem? (i := 12) rfl)))))
theorem hwX12_init_37 : (.arrayClass .boolean : Cond) ∈ wsX12_init := (List.mem_cons_of_mem _ (List.mem_append_left _ (List.mem_append_right _ (List.mem_append_left _ (List.mem_of_getElem? (i := 13) rfl)))))
theorem hwX12_init_38 : (.fieldLink RX12 111 "FortyBeltsModel" "isThere" "[Z" : Cond) ∈ wsX12_init := (List.mem_cons_of_mem _ (List.mem_append_left _ (List.mem_append_right _ (List.mem_append_left _ (List.mem_of_getElem? (i := 14) rfl)))))
theorem hwX12_init_39 : (.fieldLink RX12 115 "FortyBeltsModel" "sorts" "[I" : Cond) ∈ wsX12_init := (List.mem_cons_of_mem _ (List.mem_append_left _ (List.mem_append_right _ (List.mem_append_left _ (List.mem_of_getElem? (i := 15) rfl)))))
theorem hwX12_init_40 : (.fieldLink RX12 118 "FortyBeltsModel" "sheetSize" "[I" : Cond) ∈ wsX12_init := (List.mem_cons_of_mem _ (List.mem_append_left _ (List.mem_append_right _ (List.mem_append_left _ (List.mem_of_getElem? (i := 16) rfl)))))
theorem hwX12_init_41 : (.fieldLink RX12 121 "FortyBeltsModel" "items" "[I" : Cond) ∈ wsX12_init := (List.mem_cons_of_mem _ (List.mem_append_left _ (List.mem_append_right _ (List.mem_append_left _ (List.mem_of_getElem? (i := 17) rfl)))))
theorem hwX12_init_42 : (.constantLong RX12 124 (8603389805959343969) : Cond) ∈ wsX12_init := (List.mem_cons_of_mem _ (List.mem_append_left _ (List.mem_append_right _ (List.mem_append_left _ (List.mem_of_getElem? (i := 18) rfl)))))
theorem hwX12_init_43 : (.constantLong RX12 130 (7214812921726989682) : Cond) ∈ wsX12_init := (List.mem_cons_of_mem _ (List.mem_append_left _ (List.mem_append_right _ (List.mem_append_left _ (List.mem_of_getElem? (i := 19) rfl)))))
theorem hwX12_init_44 : (.constantLong RX12 132 (8295695524077071972) : Cond) ∈ wsX12_init := (List.mem_cons_of_mem _ (List.mem_append_left _ (List.mem_append_right _ (List.mem_append_left _ (List.mem_of_getElem? (i := 20) rfl)))))
theorem hwX12_init_45 : (.constantLong RX12 134 (2320796625594184289) : Cond) ∈ wsX12_init := (List.mem_cons_of_mem _ (List.mem_append_left _ (List.mem_append_right _ (List.mem_append_left _ (List.mem_of_getElem? (i := 21) rfl)))))
theorem hwX12_init_46 : (.constantLong RX12 136 (8079522742130536052) : Cond) ∈ wsX12_init := (List.mem_cons_of_mem _ (List.mem_append_left _ (List.mem_append_right _ (List.mem_append_left _ (List.mem_of_getElem? (i := 22) rfl)))))
theorem hwX12_init_47 : (.constantLong RX12 138 (2338328605938952992) : Cond) ∈ wsX12_init := (List.mem_cons_of_mem _ (List.mem_append_left _ (List.mem_append_right _ (List.mem_append_left _ (List.mem_of_getElem? (i := 23) rfl)))))
theorem hwX12_init_48 : (.constantLong RX12 140 (3684009504353034272) : Cond) ∈ wsX12_init := (List.mem_cons_of_mem _ (List.mem_append_left _ (List.mem_append_right _ (List.mem_append_right _ (List.mem_of_getElem? (i := 0) rfl)))))
theorem hwX12_init_49 : (.fieldLink RX12 142 "FortyBeltsModel" "textCount" "I" : Cond) ∈ wsX12_init := (List.mem_cons_of_mem _ (List.mem_append_left _ (List.mem_append_right _ (List.mem_append_right _ (List.mem_of_getElem? (i := 1) rfl)))))
theorem hwX12_init_50 : (.fieldLink RX12 145 "FortyBeltsModel" "engineTurns" "I" : Cond) ∈ wsX12_init := (List.mem_cons_of_mem _ (List.mem_append_left _ (List.mem_append_right _ (List.mem_append_right _ (List.mem_of_getElem? (i := 2) rfl)))))
theorem hwX12_init_51 : (.fieldLink RX12 148 "FortyBeltsModel" "power" "I" : Cond) ∈ wsX12_init := (List.mem_cons_of_mem _ (List.mem_append_left _ (List.mem_append_right _ (List.mem_append_right _ (List.mem_of_getElem? (i := 3) rfl)))))
theorem hcX12_init_X12 : ∀ w ∈ wsX120, w ∈ wsX12_init := fun _ h => (List.mem_cons_of_mem _ (List.mem_append_right _ h))
set_option maxHeartbeats 16000000 in
set_option maxRecDepth 100000 in
theorem J_X12_init {D : va_G} {KA : Nat → ClassId} {zs : ZS} {ad : Nat → Nat} {ids : List Nat} {sz : Nat} (l : Launch)  (hm_this : 0 ∈ ids)  {σ : St} {post : St → List Nat → Prop} (h : wX12_init ids  σ post) : Met l yX12_init wsX12_init rmX12_init (va_Pc [.ref (ad 0)] (xIn D KA zs layR st0 ad ids sz σ)) (va_Qv (S := St × (Nat → Nat) × List Nat) (fun u => post u.1 u.2.2) (xOutA D KA layR stR ad ids sz) (xA ad ids sz)) 34 1515 (xA ad ids sz) := by
  refine Met.ofW (cc := cX12_init) (maxL := 1) (ret := none) (by decide) rfl ?_
  intro p e s m args below meth c s₁ B hml hv
  obtain ⟨hav, hsz, hK, hZ, hP, hD⟩ := hv
  have hx := B.exec
  have hb := B.bytes
  have hr := B.returns
  have hts := atoms_spec (ws := wsX12_init) B.pre
  have hown : s.vm.findClass RX12 = some m.cls := findClass_of_methodNamed B.named
  have hlocks := B.notSynchronized
  have hin2 : meth.name = "<init>" := (name_of_methodNamed B.named B.method).1
  subst hsz
  have hA : ∀ q : Nat, s.heap.size ≤ q → xA ad ids s.heap.size q := fun q h => Or.inr h
  have hW : xW D KA layR st0 ad ids (xA ad ids s.heap.size) s.heap σ s.heap [] := ⟨hP, xA_D (D := D) hD, va_S.rf⟩
  have kr : ∀ (σ : St) (ad' : Nat → Nat) (ids' : List Nat) (H : Heap) (locs : List Loc) (ls : Array Slot) (pc : Nat), xW D KA layR stR ad' ids' (xA ad ids s.heap.size) s.heap σ H locs → (∀ c ∈ ids, ad' c = ad c) → (∀ c ∈ ids, c ∈ ids') → post σ ids' → decode cX12_init pc = .ok (.return_, 1) → W p l e rmX12_init s m args below meth c H locs 34 1515 (MQ below (va_Qv (S := St × (Nat → Nat) × List Nat) (fun u => post u.1 u.2.2) (xOutA D KA layR stR ad ids s.heap.size) (xA ad ids s.heap.size)) args s 34 1515 (xA ad ids s.heap.size)) (F0 m pc ls []) := fun σ ad' ids' H locs ls pc hW he hs h hd => x_vretA hx hb hr hlocks hW he hs h hd
  have hl := lv_entry ([.ref (ad 0)]) (n := 1) (Nat.le_of_ble_eq_true rfl)
  rw [show entryFrame m args 1 = entryFrame m ([.ref (ad 0)] : List Value).toArray 1 from by rw [hav]]
  rw [lg_entry_eq]
  generalize (lg_sl ([.ref (ad 0)]) ++ List.replicate (1 - (lg_sl ([.ref (ad 0)])).length) Slot.unset).toArray = ls at hl ⊢
  have hl : lv_has ls 1 [(0, .ref (ad 0))] := hl
  show W p l e rmX12_init s m args below meth c s.heap [] 0 0 _ _
  generalize MQ below (va_Qv (S := St × (Nat → Nat) × List Nat) (fun u => post u.1 u.2.2) (xOutA D KA layR stR ad ids s.heap.size) (xA ad ids s.heap.size)) args s 34 1515 (xA ad ids s.heap.size) = Q at kr ⊢
  unfold wX12_init at h
  refine lv_aload_n hx hb dX12_init_0 rfl (lv_at hl 0 rfl) ?_
  refine W.objInit hx hb hown (hts _ hwX12_init_0) (hts _ hwX12_init_1) (hts _ hwX12_init_2) rfl (by rw [hml]; exact hl.1) rfl dX12_init_1 (Nat.le_of_ble_eq_true rfl) (Nat.le_of_ble_eq_true rfl) ?_
  refine W.eq (g2 := F0 m 4 ls []) rfl ?_
  refine lv_aload_n hx hb dX12_init_4 rfl (lv_at hl 0 rfl) ?_
  refine lv_sipush (v := 960) hx hb dX12_init_5 (by decide) ?_
  obtain ⟨⟨hq1001a, hq1001d, hq1001r⟩, h⟩ := h
  refine x_newi hx hb hts hwX12_init_3 hK hW hA 1 960 hq1001d hq1001a hq1001r (by decide) rfl (Nat.le_of_ble_eq_true rfl) (Nat.le_of_ble_eq_true rfl) (Nat.le_of_ble_eq_true rfl) dX12_init_8 (fun ad1003 H hAd1004 hW => ?_)
  obtain ⟨σ1002, hσ1002⟩ : ∃ τ, τ = nC σ 1 := ⟨_, rfl⟩
  rw [← hσ1002] at hW
  obtain ⟨ids1005, hids1005⟩ : ∃ x, x = ids ++ [1] := ⟨_, rfl⟩
  rw [← hids1005] at hW
  have h := h σ1002 hσ1002 ids1005 hids1005
  have e1006 : ad 0 = ad1003 0 := (hAd1004 _ (x_ne hm_this hq1001d)).symm
  rw [e1006] at hl
  rw [e1006]
  refine xfX12_1 hx hb hts hown hK hW 0 hcX12_init_X12 (x_mL hids1005 hm_this) lR_0 (hts _ hwX12_init_4) hin2 rfl rfl dX12_init_10 (fun σ1007 H locs hσ1007 hW => ?_)
  have h := h σ1007 hσ1007
  refine lv_aload_n hx hb dX12_init_13 rfl (lv_at hl 0 rfl) ?_
  refine lv_bipush (v := 6) hx hb dX12_init_14 (by decide) ?_
  obtain ⟨⟨hq1008a, hq1008d, hq1008r⟩, h⟩ := h
  refine x_newi hx hb hts hwX12_init_3 hK hW hA 2 6 hq1008d hq1008a hq1008r (by decide) rfl (Nat.le_of_ble_eq_true rfl) (Nat.le_of_ble_eq_true rfl) (Nat.le_of_ble_eq_true rfl) dX12_init_16 (fun ad1010 H hAd1011 hW => ?_)
  obtain ⟨σ1009, hσ1009⟩ : ∃ τ, τ = nC σ1007 2 := ⟨_, rfl⟩
  rw [← hσ1009] at hW
  obtain ⟨ids1012, hids1012⟩ : ∃ x, x = ids1005 ++ [2] := ⟨_, rfl⟩
  rw [← hids1012] at hW
  have h := h σ1009 hσ1009 ids1012 hids1012
  have e1013 : ad1003 0 = ad1010 0 := (hAd1011 _ (x_ne (x_mL hids1005 hm_this) hq1008d)).symm
  rw [e1013] at hl
  rw [e1013]
  refine xfX12_2 hx hb hts hown hK hW 0 hcX12_init_X12 (x_mL hids1012 (x_mL hids1005 hm_this)) lR_0 (hts _ hwX12_init_5) hin2 rfl rfl dX12_init_18 (fun σ1014 H locs hσ1014 hW => ?_)
  have h := h σ1014 hσ1014
  refine lv_aload_n hx hb dX12_init_21 rfl (lv_at hl 0 rfl) ?_
  refine lv_sipush (v := 160) hx hb dX12_init_22 (by decide) ?_
  obtain ⟨⟨hq1015a, hq1015d, hq1015r⟩, h⟩ := h
  refine x_newi hx hb hts hwX12_init_3 hK hW hA 3 160 hq1015d hq1015a hq1015r (by decide) rfl (Nat.le_of_ble_eq_true rfl) (Nat.le_of_ble_eq_true rfl) (Nat.le_of_ble_eq_true rfl) dX12_init_25 (fun ad1017 H hAd1018 hW => ?_)
  obtain ⟨σ1016, hσ1016⟩ : ∃ τ, τ = nC σ1014 3 := ⟨_, rfl⟩
  rw [← hσ1016] at hW
  obtain ⟨ids1019, hids1019⟩ : ∃ x, x = ids1012 ++ [3] := ⟨_, rfl⟩
  rw [← hids1019] at hW
  have h := h σ1016 hσ1016 ids1019 hids1019
  have e1020 : ad1010 0 = ad1017 0 := (hAd1018 _ (x_ne (x_mL hids1012 (x_mL hids1005 hm_this)) hq1015d)).symm
  rw [e1020] at hl
  rw [e1020]
  refine xfX12_5 hx hb hts hown hK hW 0 hcX12_init_X12 (x_mL hids1019 (x_mL hids1012 (x_mL hids1005 hm_this))) lR_0 (hts _ hwX12_init_6) hin2 rfl rfl dX12_init_27 (fun σ1021 H locs hσ1021 hW => ?_)
  have h := h σ1021 hσ1021
  refine lv_aload_n hx hb dX12_init_30 rfl (lv_at hl 0 rfl) ?_
  refine lv_bipush (v := 8) hx hb dX12_init_31 (by decide) ?_
  obtain ⟨⟨hq1022a, hq1022d, hq1022r⟩, h⟩ := h
  refine x_newi hx hb hts hwX12_init_3 hK hW hA 4 8 hq1022d hq1022a hq1022r (by decide) rfl (Nat.le_of_ble_eq_true rfl) (Nat.le_of_ble_eq_true rfl) (Nat.le_of_ble_eq_true rfl) dX12_init_33 (fun ad1024 H hAd1025 hW => ?_)
  obtain ⟨σ1023, hσ1023⟩ : ∃ τ, τ = nC σ1021 4 := ⟨_, rfl⟩
  rw [← hσ1023] at hW
  obtain ⟨ids1026, hids1026⟩ : ∃ x, x = ids1019 ++ [4] := ⟨_, rfl⟩
  rw [← hids1026] at hW
  have h := h σ1023 hσ1023 ids1026 hids1026
  have e1027 : ad1017 0 = ad1024 0 := (hAd1025 _ (x_ne (x_mL hids1019 (x_mL hids1012 (x_mL hids1005 hm_this))) hq1022d)).symm
  rw [e1027] at hl
  rw [e1027]
  refine xfX12_7 hx hb hts hown hK hW 0 hcX12_init_X12 (x_mL hids1026 (x_mL hids1019 (x_mL hids1012 (x_mL hids1005 hm_this)))) lR_0 (hts _ hwX12_init_7) hin2 rfl rfl dX12_init_35 (fun σ1028 H locs hσ1028 hW => ?_)
  have h := h σ1028 hσ1028
  refine lv_aload_n hx hb dX12_init_38 rfl (lv_at hl 0 rfl) ?_
  refine lv_bipush (v := 8) hx hb dX12_init_39 (by decide) ?_
  obtain ⟨⟨hq1029a, hq1029d, hq1029r⟩, h⟩ := h
  refine x_newi hx hb hts hwX12_init_3 hK hW hA 5 8 hq1029d hq1029a hq1029r (by decide) rfl (Nat.le_of_ble_eq_true rfl) (Nat.le_of_ble_eq_true rfl) (Nat.le_of_ble_eq_true rfl) dX12_init_41 (fun ad1031 H hAd1032 hW => ?_)
  obtain ⟨σ1030, hσ1030⟩ : ∃ τ, τ = nC σ1028 5 := ⟨_, rfl⟩
  rw [← hσ1030] at hW
  obtain ⟨ids1033, hids1033⟩ : ∃ x, x = ids1026 ++ [5] := ⟨_, rfl⟩
  rw [← hids1033] at hW
  have h := h σ1030 hσ1030 ids1033 hids1033
  have e1034 : ad1024 0 = ad1031 0 := (hAd1032 _ (x_ne (x_mL hids1026 (x_mL hids1019 (x_mL hids1012 (x_mL hids1005 hm_this)))) hq1029d)).symm
  rw [e1034] at hl
  rw [e1034]
  refine xfX12_8 hx hb hts hown hK hW 0 hcX12_init_X12 (x_mL hids1033 (x_mL hids1026 (x_mL hids1019 (x_mL hids1012 (x_mL hids1005 hm_this))))) lR_0 (hts _ hwX12_init_8) hin2 rfl rfl dX12_init_43 (fun σ1035 H locs hσ1035 hW => ?_)
  have h := h σ1035 hσ1035
  refine lv_aload_n hx hb dX12_init_46 rfl (lv_at hl 0 rfl) ?_
  refine lv_bipush (v := 10) hx hb dX12_init_47 (by decide) ?_
  obtain ⟨⟨hq1036a, hq1036d, hq1036r⟩, h⟩ := h
  refine x_newi hx hb hts hwX12_init_3 hK hW hA 6 10 hq1036d hq1036a hq1036r (by decide) rfl (Nat.le_of_ble_eq_true rfl) (Nat.le_of_ble_eq_true rfl) (Nat.le_of_ble_eq_true rfl) dX12_init_49 (fun ad1038 H hAd1039 hW => ?_)
  obtain ⟨σ1037, hσ1037⟩ : ∃ τ, τ = nC σ1035 6 := ⟨_, rfl⟩
  rw [← hσ1037] at hW
  obtain ⟨ids1040, hids1040⟩ : ∃ x, x = ids1033 ++ [6] := ⟨_, rfl⟩
  rw [← hids1040] at hW
  have h := h σ1037 hσ1037 ids1040 hids1040
  have e1041 : ad1031 0 = ad1038 0 := (hAd1039 _ (x_ne (x_mL hids1033 (x_mL hids1026 (x_mL hids1019 (x_mL hids1012 (x_mL hids1005 hm_this))))) hq1036d)).symm
  rw [e1041] at hl
  rw [e1041]
  refine xfX12_12 hx hb hts hown hK hW 0 hcX12_init_X12 (x_mL hids1040 (x_mL hids1033 (x_mL hids1026 (x_mL hids1019 (x_mL hids1012 (x_mL hids1005 hm_this)))))) lR_0 (hts _ hwX12_init_9) hin2 rfl rfl dX12_init_51 (fun σ1042 H locs hσ1042 hW => ?_)
  have h := h σ1042 hσ1042
  refine lv_aload_n hx hb dX12_init_54 rfl (lv_at hl 0 rfl) ?_
  refine lv_bipush (v := 10) hx hb dX12_init_55 (by decide) ?_
  obtain ⟨⟨hq1043a, hq1043d, hq1043r⟩, h⟩ := h
  refine x_newi hx hb hts hwX12_init_3 hK hW hA 7 10 hq1043d hq1043a hq1043r (by decide) rfl (Nat.le_of_ble_eq_true rfl) (Nat.le_of_ble_eq_true rfl) (Nat.le_of_ble_eq_true rfl) dX12_init_57 (fun ad1045 H hAd1046 hW => ?_)
  obtain ⟨σ1044, hσ1044⟩ : ∃ τ, τ = nC σ1042 7 := ⟨_, rfl⟩
  rw [← hσ1044] at hW
  obtain ⟨ids1047, hids1047⟩ : ∃ x, x = ids1040 ++ [7] := ⟨_, rfl⟩
  rw [← hids1047] at hW
  have h := h σ1044 hσ1044 ids1047 hids1047
  have e1048 : ad1038 0 = ad1045 0 := (hAd1046 _ (x_ne (x_mL hids1040 (x_mL hids1033 (x_mL hids1026 (x_mL hids1019 (x_mL hids1012 (x_mL hids1005 hm_this)))))) hq1043d)).symm
  rw [e1048] at hl
  rw [e1048]
  refine xfX12_13 hx hb hts hown hK hW 0 hcX12_init_X12 (x_mL hids1047 (x_mL hids1040 (x_mL hids1033 (x_mL hids1026 (x_mL hids1019 (x_mL hids1012 (x_mL hids1005 hm_this))))))) lR_0 (hts _ hwX12_init_10) hin2 rfl rfl dX12_init_59 (fun σ1049 H locs hσ1049 hW => ?_)
  have h := h σ1049 hσ1049
  refine lv_aload_n hx hb dX12_init_62 rfl (lv_at hl 0 rfl) ?_
  refine lv_bipush (v := 10) hx hb dX12_init_63 (by decide) ?_
  obtain ⟨⟨hq1050a, hq1050d, hq1050r⟩, h⟩ := h
  refine x_newi hx hb hts hwX12_init_3 hK hW hA 8 10 hq1050d hq1050a hq1050r (by decide) rfl (Nat.le_of_ble_eq_true rfl) (Nat.le_of_ble_eq_true rfl) (Nat.le_of_ble_eq_true rfl) dX12_init_65 (fun ad1052 H hAd1053 hW => ?_)
  obtain ⟨σ1051, hσ1051⟩ : ∃ τ, τ = nC σ1049 8 := ⟨_, rfl⟩
  rw [← hσ1051] at hW
  obtain ⟨ids1054, hids1054⟩ : ∃ x, x = ids1047 ++ [8] := ⟨_, rfl⟩
  rw [← hids1054] at hW
  have h := h σ1051 hσ1051 ids1054 hids1054
  have e1055 : ad1045 0 = ad1052 0 := (hAd1053 _ (x_ne (x_mL hids1047 (x_mL hids1040 (x_mL hids1033 (x_mL hids1026 (x_mL hids1019 (x_mL hids1012 (x_mL hids1005 hm_this))))))) hq1050d)).symm
  rw [e1055] at hl
  rw [e1055]
  refine xfX12_14 hx hb hts hown hK hW 0 hcX12_init_X12 (x_mL hids1054 (x_mL hids1047 (x_mL hids1040 (x_mL hids1033 (x_mL hids1026 (x_mL hids1019 (x_mL hids1012 (x_mL hids1005 hm_this)))))))) lR_0 (hts _ hwX12_init_11) hin2 rfl rfl dX12_init_67 (fun σ1056 H locs hσ1056 hW => ?_)
  have h := h σ1056 hσ1056
  refine lv_aload_n hx hb dX12_init_70 rfl (lv_at hl 0 rfl) ?_
  refine lv_bipush (v := 10) hx hb dX12_init_71 (by decide) ?_
  obtain ⟨⟨hq1057a, hq1057d, hq1057r⟩, h⟩ := h
  refine x_newi hx hb hts hwX12_init_3 hK hW hA 9 10 hq1057d hq1057a hq1057r (by decide) rfl (Nat.le_of_ble_eq_true rfl) (Nat.le_of_ble_eq_true rfl) (Nat.le_of_ble_eq_true rfl) dX12_init_73 (fun ad1059 H hAd1060 hW => ?_)
  obtain ⟨σ1058, hσ1058⟩ : ∃ τ, τ = nC σ1056 9 := ⟨_, rfl⟩
  rw [← hσ1058] at hW
  obtain ⟨ids1061, hids1061⟩ : ∃ x, x = ids1054 ++ [9] := ⟨_, rfl⟩
  rw [← hids1061] at hW
  have h := h σ1058 hσ1058 ids1061 hids1061
  have e1062 : ad1052 0 = ad1059 0 := (hAd1060 _ (x_ne (x_mL hids1054 (x_mL hids1047 (x_mL hids1040 (x_mL hids1033 (x_mL hids1026 (x_mL hids1019 (x_mL hids1012 (x_mL hids1005 hm_this)))))))) hq1057d)).symm
  rw [e1062] at hl
  rw [e1062]
  refine xfX12_15 hx hb hts hown hK hW 0 hcX12_init_X12 (x_mL hids1061 (x_mL hids1054 (x_mL hids1047 (x_mL hids1040 (x_mL hids1033 (x_mL hids1026 (x_mL hids1019 (x_mL hids1012 (x_mL hids1005 hm_this))))))))) lR_0 (hts _ hwX12_init_12) hin2 rfl rfl dX12_init_75 (fun σ1063 H locs hσ1063 hW => ?_)
  have h := h σ1063 hσ1063
  refine lv_aload_n hx hb dX12_init_78 rfl (lv_at hl 0 rfl) ?_
  refine lv_bipush (v := 10) hx hb dX12_init_79 (by decide) ?_
  obtain ⟨⟨hq1064a, hq1064d, hq1064r⟩, h⟩ := h
  refine x_newi hx hb hts hwX12_init_3 hK hW hA 10 10 hq1064d hq1064a hq1064r (by decide) rfl (Nat.le_of_ble_eq_true rfl) (Nat.le_of_ble_eq_true rfl) (Nat.le_of_ble_eq_true rfl) dX12_init_81 (fun ad1066 H hAd1067 hW => ?_)
  obtain ⟨σ1065, hσ1065⟩ : ∃ τ, τ = nC σ1063 10 := ⟨_, rfl⟩
  rw [← hσ1065] at hW
  obtain ⟨ids1068, hids1068⟩ : ∃ x, x = ids1061 ++ [10] := ⟨_, rfl⟩
  rw [← hids1068] at hW
  have h := h σ1065 hσ1065 ids1068 hids1068
  have e1069 : ad1059 0 = ad1066 0 := (hAd1067 _ (x_ne (x_mL hids1061 (x_mL hids1054 (x_mL hids1047 (x_mL hids1040 (x_mL hids1033 (x_mL hids1026 (x_mL hids1019 (x_mL hids1012 (x_mL hids1005 hm_this))))))))) hq1064d)).symm
  rw [e1069] at hl
  rw [e1069]
  refine xfX12_16 hx hb hts hown hK hW 0 hcX12_init_X12 (x_mL hids1068 (x_mL hids1061 (x_mL hids1054 (x_mL hids1047 (x_mL hids1040 (x_mL hids1033 (x_mL hids1026 (x_mL hids1019 (x_mL hids1012 (x_mL hids1005 hm_this)))))))))) lR_0 (hts _ hwX12_init_13) hin2 rfl rfl dX12_init_83 (fun σ1070 H locs hσ1070 hW => ?_)
  have h := h σ1070 hσ1070
  refine lv_aload_n hx hb dX12_init_86 rfl (lv_at hl 0 rfl) ?_
  refine lv_bipush (v := 10) hx hb dX12_init_87 (by decide) ?_
  obtain ⟨⟨hq1071a, hq1071d, hq1071r⟩, h⟩ := h
  refine x_newi hx hb hts hwX12_init_3 hK hW hA 11 10 hq1071d hq1071a hq1071r (by decide) rfl (Nat.le_of_ble_eq_true rfl) (Nat.le_of_ble_eq_true rfl) (Nat.le_of_ble_eq_true rfl) dX12_init_89 (fun ad1073 H hAd1074 hW => ?_)
  obtain ⟨σ1072, hσ1072⟩ : ∃ τ, τ = nC σ1070 11 := ⟨_, rfl⟩
  rw [← hσ1072] at hW
  obtain ⟨ids1075, hids1075⟩ : ∃ x, x = ids1068 ++ [11] := ⟨_, rfl⟩
  rw [← hids1075] at hW
  have h := h σ1072 hσ1072 ids1075 hids1075
  have e1076 : ad1066 0 = ad1073 0 := (hAd1074 _ (x_ne (x_mL hids1068 (x_mL hids1061 (x_mL hids1054 (x_mL hids1047 (x_mL hids1040 (x_mL hids1033 (x_mL hids1026 (x_mL hids1019 (x_mL hids1012 (x_mL hids1005 hm_this)))))))))) hq1071d)).symm
  rw [e1076] at hl
  rw [e1076]
  refine xfX12_17 hx hb hts hown hK hW 0 hcX12_init_X12 (x_mL hids1075 (x_mL hids1068 (x_mL hids1061 (x_mL hids1054 (x_mL hids1047 (x_mL hids1040 (x_mL hids1033 (x_mL hids1026 (x_mL hids1019 (x_mL hids1012 (x_mL hids1005 hm_this))))))))))) lR_0 (hts _ hwX12_init_14) hin2 rfl rfl dX12_init_91 (fun σ1077 H locs hσ1077 hW => ?_)
  have h := h σ1077 hσ1077
  refine lv_aload_n hx hb dX12_init_94 rfl (lv_at hl 0 rfl) ?_
  refine lv_bipush (v := 12) hx hb dX12_init_95 (by decide) ?_
  obtain ⟨⟨hq1078a, hq1078d, hq1078r⟩, h⟩ := h
  refine x_newi hx hb hts hwX12_init_3 hK hW hA 12 12 hq1078d hq1078a hq1078r (by decide) rfl (Nat.le_of_ble_eq_true rfl) (Nat.le_of_ble_eq_true rfl) (Nat.le_of_ble_eq_true rfl) dX12_init_97 (fun ad1080 H hAd1081 hW => ?_)
  obtain ⟨σ1079, hσ1079⟩ : ∃ τ, τ = nC σ1077 12 := ⟨_, rfl⟩
  rw [← hσ1079] at hW
  obtain ⟨ids1082, hids1082⟩ : ∃ x, x = ids1075 ++ [12] := ⟨_, rfl⟩
  rw [← hids1082] at hW
  have h := h σ1079 hσ1079 ids1082 hids1082
  have e1083 : ad1073 0 = ad1080 0 := (hAd1081 _ (x_ne (x_mL hids1075 (x_mL hids1068 (x_mL hids1061 (x_mL hids1054 (x_mL hids1047 (x_mL hids1040 (x_mL hids1033 (x_mL hids1026 (x_mL hids1019 (x_mL hids1012 (x_mL hids1005 hm_this))))))))))) hq1078d)).symm
  rw [e1083] at hl
  rw [e1083]
  refine xfX12_19 hx hb hts hown hK hW 0 hcX12_init_X12 (x_mL hids1082 (x_mL hids1075 (x_mL hids1068 (x_mL hids1061 (x_mL hids1054 (x_mL hids1047 (x_mL hids1040 (x_mL hids1033 (x_mL hids1026 (x_mL hids1019 (x_mL hids1012 (x_mL hids1005 hm_this)))))))))))) lR_0 (hts _ hwX12_init_15) hin2 rfl rfl dX12_init_99 (fun σ1084 H locs hσ1084 hW => ?_)
  have h := h σ1084 hσ1084
  refine lv_aload_n hx hb dX12_init_102 rfl (lv_at hl 0 rfl) ?_
  refine lv_bipush (v := 7) hx hb dX12_init_103 (by decide) ?_
  obtain ⟨⟨hq1085a, hq1085d, hq1085r⟩, h⟩ := h
  refine x_newi hx hb hts hwX12_init_3 hK hW hA 13 7 hq1085d hq1085a hq1085r (by decide) rfl (Nat.le_of_ble_eq_true rfl) (Nat.le_of_ble_eq_true rfl) (Nat.le_of_ble_eq_true rfl) dX12_init_105 (fun ad1087 H hAd1088 hW => ?_)
  obtain ⟨σ1086, hσ1086⟩ : ∃ τ, τ = nC σ1084 13 := ⟨_, rfl⟩
  rw [← hσ1086] at hW
  obtain ⟨ids1089, hids1089⟩ : ∃ x, x = ids1082 ++ [13] := ⟨_, rfl⟩
  rw [← hids1089] at hW
  have h := h σ1086 hσ1086 ids1089 hids1089
  have e1090 : ad1080 0 = ad1087 0 := (hAd1088 _ (x_ne (x_mL hids1082 (x_mL hids1075 (x_mL hids1068 (x_mL hids1061 (x_mL hids1054 (x_mL hids1047 (x_mL hids1040 (x_mL hids1033 (x_mL hids1026 (x_mL hids1019 (x_mL hids1012 (x_mL hids1005 hm_this)))))))))))) hq1085d)).symm
  rw [e1090] at hl
  rw [e1090]
  refine xfX12_21 hx hb hts hown hK hW 0 hcX12_init_X12 (x_mL hids1089 (x_mL hids1082 (x_mL hids1075 (x_mL hids1068 (x_mL hids1061 (x_mL hids1054 (x_mL hids1047 (x_mL hids1040 (x_mL hids1033 (x_mL hids1026 (x_mL hids1019 (x_mL hids1012 (x_mL hids1005 hm_this))))))))))))) lR_0 (hts _ hwX12_init_16) hin2 rfl rfl dX12_init_107 (fun σ1091 H locs hσ1091 hW => ?_)
  have h := h σ1091 hσ1091
  refine lv_aload_n hx hb dX12_init_110 rfl (lv_at hl 0 rfl) ?_
  refine lv_bipush (v := 7) hx hb dX12_init_111 (by decide) ?_
  obtain ⟨⟨hq1092a, hq1092d, hq1092r⟩, h⟩ := h
  refine x_newi hx hb hts hwX12_init_3 hK hW hA 14 7 hq1092d hq1092a hq1092r (by decide) rfl (Nat.le_of_ble_eq_true rfl) (Nat.le_of_ble_eq_true rfl) (Nat.le_of_ble_eq_true rfl) dX12_init_113 (fun ad1094 H hAd1095 hW => ?_)
  obtain ⟨σ1093, hσ1093⟩ : ∃ τ, τ = nC σ1091 14 := ⟨_, rfl⟩
  rw [← hσ1093] at hW
  obtain ⟨ids1096, hids1096⟩ : ∃ x, x = ids1089 ++ [14] := ⟨_, rfl⟩
  rw [← hids1096] at hW
  have h := h σ1093 hσ1093 ids1096 hids1096
  have e1097 : ad1087 0 = ad1094 0 := (hAd1095 _ (x_ne (x_mL hids1089 (x_mL hids1082 (x_mL hids1075 (x_mL hids1068 (x_mL hids1061 (x_mL hids1054 (x_mL hids1047 (x_mL hids1040 (x_mL hids1033 (x_mL hids1026 (x_mL hids1019 (x_mL hids1012 (x_mL hids1005 hm_this))))))))))))) hq1092d)).symm
  rw [e1097] at hl
  rw [e1097]
  refine xfX12_22 hx hb hts hown hK hW 0 hcX12_init_X12 (x_mL hids1096 (x_mL hids1089 (x_mL hids1082 (x_mL hids1075 (x_mL hids1068 (x_mL hids1061 (x_mL hids1054 (x_mL hids1047 (x_mL hids1040 (x_mL hids1033 (x_mL hids1026 (x_mL hids1019 (x_mL hids1012 (x_mL hids1005 hm_this)))))))))))))) lR_0 (hts _ hwX12_init_17) hin2 rfl rfl dX12_init_115 (fun σ1098 H locs hσ1098 hW => ?_)
  have h := h σ1098 hσ1098
  refine lv_aload_n hx hb dX12_init_118 rfl (lv_at hl 0 rfl) ?_
  refine lv_bipush (v := 7) hx hb dX12_init_119 (by decide) ?_
  obtain ⟨⟨hq1099a, hq1099d, hq1099r⟩, h⟩ := h
  refine x_newi hx hb hts hwX12_init_3 hK hW hA 15 7 hq1099d hq1099a hq1099r (by decide) rfl (Nat.le_of_ble_eq_true rfl) (Nat.le_of_ble_eq_true rfl) (Nat.le_of_ble_eq_true rfl) dX12_init_121 (fun ad1101 H hAd1102 hW => ?_)
  obtain ⟨σ1100, hσ1100⟩ : ∃ τ, τ = nC σ1098 15 := ⟨_, rfl⟩
  rw [← hσ1100] at hW
  obtain ⟨ids1103, hids1103⟩ : ∃ x, x = ids1096 ++ [15] := ⟨_, rfl⟩
  rw [← hids1103] at hW
  have h := h σ1100 hσ1100 ids1103 hids1103
  have e1104 : ad1094 0 = ad1101 0 := (hAd1102 _ (x_ne (x_mL hids1096 (x_mL hids1089 (x_mL hids1082 (x_mL hids1075 (x_mL hids1068 (x_mL hids1061 (x_mL hids1054 (x_mL hids1047 (x_mL hids1040 (x_mL hids1033 (x_mL hids1026 (x_mL hids1019 (x_mL hids1012 (x_mL hids1005 hm_this)))))))))))))) hq1099d)).symm
  rw [e1104] at hl
  rw [e1104]
  refine xfX12_23 hx hb hts hown hK hW 0 hcX12_init_X12 (x_mL hids1103 (x_mL hids1096 (x_mL hids1089 (x_mL hids1082 (x_mL hids1075 (x_mL hids1068 (x_mL hids1061 (x_mL hids1054 (x_mL hids1047 (x_mL hids1040 (x_mL hids1033 (x_mL hids1026 (x_mL hids1019 (x_mL hids1012 (x_mL hids1005 hm_this))))))))))))))) lR_0 (hts _ hwX12_init_18) hin2 rfl rfl dX12_init_123 (fun σ1105 H locs hσ1105 hW => ?_)
  have h := h σ1105 hσ1105
  refine lv_aload_n hx hb dX12_init_126 rfl (lv_at hl 0 rfl) ?_
  refine lv_bipush (v := 7) hx hb dX12_init_127 (by decide) ?_
  obtain ⟨⟨hq1106a, hq1106d, hq1106r⟩, h⟩ := h
  refine x_newi hx hb hts hwX12_init_3 hK hW hA 16 7 hq1106d hq1106a hq1106r (by decide) rfl (Nat.le_of_ble_eq_true rfl) (Nat.le_of_ble_eq_true rfl) (Nat.le_of_ble_eq_true rfl) dX12_init_129 (fun ad1108 H hAd1109 hW => ?_)
  obtain ⟨σ1107, hσ1107⟩ : ∃ τ, τ = nC σ1105 16 := ⟨_, rfl⟩
  rw [← hσ1107] at hW
  obtain ⟨ids1110, hids1110⟩ : ∃ x, x = ids1103 ++ [16] := ⟨_, rfl⟩
  rw [← hids1110] at hW
  have h := h σ1107 hσ1107 ids1110 hids1110
  have e1111 : ad1101 0 = ad1108 0 := (hAd1109 _ (x_ne (x_mL hids1103 (x_mL hids1096 (x_mL hids1089 (x_mL hids1082 (x_mL hids1075 (x_mL hids1068 (x_mL hids1061 (x_mL hids1054 (x_mL hids1047 (x_mL hids1040 (x_mL hids1033 (x_mL hids1026 (x_mL hids1019 (x_mL hids1012 (x_mL hids1005 hm_this))))))))))))))) hq1106d)).symm
  rw [e1111] at hl
  rw [e1111]
  refine xfX12_24 hx hb hts hown hK hW 0 hcX12_init_X12 (x_mL hids1110 (x_mL hids1103 (x_mL hids1096 (x_mL hids1089 (x_mL hids1082 (x_mL hids1075 (x_mL hids1068 (x_mL hids1061 (x_mL hids1054 (x_mL hids1047 (x_mL hids1040 (x_mL hids1033 (x_mL hids1026 (x_mL hids1019 (x_mL hids1012 (x_mL hids1005 hm_this)))))))))))))))) lR_0 (hts _ hwX12_init_19) hin2 rfl rfl dX12_init_131 (fun σ1112 H locs hσ1112 hW => ?_)
  have h := h σ1112 hσ1112
  refine lv_aload_n hx hb dX12_init_134 rfl (lv_at hl 0 rfl) ?_
  refine lv_bipush (v := 7) hx hb dX12_init_135 (by decide) ?_
  obtain ⟨⟨hq1113a, hq1113d, hq1113r⟩, h⟩ := h
  refine x_newi hx hb hts hwX12_init_3 hK hW hA 17 7 hq1113d hq1113a hq1113r (by decide) rfl (Nat.le_of_ble_eq_true rfl) (Nat.le_of_ble_eq_true rfl) (Nat.le_of_ble_eq_true rfl) dX12_init_137 (fun ad1115 H hAd1116 hW => ?_)
  obtain ⟨σ1114, hσ1114⟩ : ∃ τ, τ = nC σ1112 17 := ⟨_, rfl⟩
  rw [← hσ1114] at hW
  obtain ⟨ids1117, hids1117⟩ : ∃ x, x = ids1110 ++ [17] := ⟨_, rfl⟩
  rw [← hids1117] at hW
  have h := h σ1114 hσ1114 ids1117 hids1117
  have e1118 : ad1108 0 = ad1115 0 := (hAd1116 _ (x_ne (x_mL hids1110 (x_mL hids1103 (x_mL hids1096 (x_mL hids1089 (x_mL hids1082 (x_mL hids1075 (x_mL hids1068 (x_mL hids1061 (x_mL hids1054 (x_mL hids1047 (x_mL hids1040 (x_mL hids1033 (x_mL hids1026 (x_mL hids1019 (x_mL hids1012 (x_mL hids1005 hm_this)))))))))))))))) hq1113d)).symm
  rw [e1118] at hl
  rw [e1118]
  refine xfX12_25 hx hb hts hown hK hW 0 hcX12_init_X12 (x_mL hids1117 (x_mL hids1110 (x_mL hids1103 (x_mL hids1096 (x_mL hids1089 (x_mL hids1082 (x_mL hids1075 (x_mL hids1068 (x_mL hids1061 (x_mL hids1054 (x_mL hids1047 (x_mL hids1040 (x_mL hids1033 (x_mL hids1026 (x_mL hids1019 (x_mL hids1012 (x_mL hids1005 hm_this))))))))))))))))) lR_0 (hts _ hwX12_init_20) hin2 rfl rfl dX12_init_139 (fun σ1119 H locs hσ1119 hW => ?_)
  have h := h σ1119 hσ1119
  refine lv_aload_n hx hb dX12_init_142 rfl (lv_at hl 0 rfl) ?_
  refine lv_bipush (v := 7) hx hb dX12_init_143 (by decide) ?_
  obtain ⟨⟨hq1120a, hq1120d, hq1120r⟩, h⟩ := h
  refine x_newi hx hb hts hwX12_init_3 hK hW hA 18 7 hq1120d hq1120a hq1120r (by decide) rfl (Nat.le_of_ble_eq_true rfl) (Nat.le_of_ble_eq_true rfl) (Nat.le_of_ble_eq_true rfl) dX12_init_145 (fun ad1122 H hAd1123 hW => ?_)
  obtain ⟨σ1121, hσ1121⟩ : ∃ τ, τ = nC σ1119 18 := ⟨_, rfl⟩
  rw [← hσ1121] at hW
  obtain ⟨ids1124, hids1124⟩ : ∃ x, x = ids1117 ++ [18] := ⟨_, rfl⟩
  rw [← hids1124] at hW
  have h := h σ1121 hσ1121 ids1124 hids1124
  have e1125 : ad1115 0 = ad1122 0 := (hAd1123 _ (x_ne (x_mL hids1117 (x_mL hids1110 (x_mL hids1103 (x_mL hids1096 (x_mL hids1089 (x_mL hids1082 (x_mL hids1075 (x_mL hids1068 (x_mL hids1061 (x_mL hids1054 (x_mL hids1047 (x_mL hids1040 (x_mL hids1033 (x_mL hids1026 (x_mL hids1019 (x_mL hids1012 (x_mL hids1005 hm_this))))))))))))))))) hq1120d)).symm
  rw [e1125] at hl
  rw [e1125]
  refine xfX12_26 hx hb hts hown hK hW 0 hcX12_init_X12 (x_mL hids1124 (x_mL hids1117 (x_mL hids1110 (x_mL hids1103 (x_mL hids1096 (x_mL hids1089 (x_mL hids1082 (x_mL hids1075 (x_mL hids1068 (x_mL hids1061 (x_mL hids1054 (x_mL hids1047 (x_mL hids1040 (x_mL hids1033 (x_mL hids1026 (x_mL hids1019 (x_mL hids1012 (x_mL hids1005 hm_this)))))))))))))))))) lR_0 (hts _ hwX12_init_21) hin2 rfl rfl dX12_init_147 (fun σ1126 H locs hσ1126 hW => ?_)
  have h := h σ1126 hσ1126
  refine lv_aload_n hx hb dX12_init_150 rfl (lv_at hl 0 rfl) ?_
  refine lv_bipush (v := 7) hx hb dX12_init_151 (by decide) ?_
  obtain ⟨⟨hq1127a, hq1127d, hq1127r⟩, h⟩ := h
  refine x_newi hx hb hts hwX12_init_3 hK hW hA 19 7 hq1127d hq1127a hq1127r (by decide) rfl (Nat.le_of_ble_eq_true rfl) (Nat.le_of_ble_eq_true rfl) (Nat.le_of_ble_eq_true rfl) dX12_init_153 (fun ad1129 H hAd1130 hW => ?_)
  obtain ⟨σ1128, hσ1128⟩ : ∃ τ, τ = nC σ1126 19 := ⟨_, rfl⟩
  rw [← hσ1128] at hW
  obtain ⟨ids1131, hids1131⟩ : ∃ x, x = ids1124 ++ [19] := ⟨_, rfl⟩
  rw [← hids1131] at hW
  have h := h σ1128 hσ1128 ids1131 hids1131
  have e1132 : ad1122 0 = ad1129 0 := (hAd1130 _ (x_ne (x_mL hids1124 (x_mL hids1117 (x_mL hids1110 (x_mL hids1103 (x_mL hids1096 (x_mL hids1089 (x_mL hids1082 (x_mL hids1075 (x_mL hids1068 (x_mL hids1061 (x_mL hids1054 (x_mL hids1047 (x_mL hids1040 (x_mL hids1033 (x_mL hids1026 (x_mL hids1019 (x_mL hids1012 (x_mL hids1005 hm_this)))))))))))))))))) hq1127d)).symm
  rw [e1132] at hl
  rw [e1132]
  refine xfX12_27 hx hb hts hown hK hW 0 hcX12_init_X12 (x_mL hids1131 (x_mL hids1124 (x_mL hids1117 (x_mL hids1110 (x_mL hids1103 (x_mL hids1096 (x_mL hids1089 (x_mL hids1082 (x_mL hids1075 (x_mL hids1068 (x_mL hids1061 (x_mL hids1054 (x_mL hids1047 (x_mL hids1040 (x_mL hids1033 (x_mL hids1026 (x_mL hids1019 (x_mL hids1012 (x_mL hids1005 hm_this))))))))))))))))))) lR_0 (hts _ hwX12_init_22) hin2 rfl rfl dX12_init_155 (fun σ1133 H locs hσ1133 hW => ?_)
  have h := h σ1133 hσ1133
  refine lv_aload_n hx hb dX12_init_158 rfl (lv_at hl 0 rfl) ?_
  refine lv_iconst (v := (-1)) hx hb dX12_init_159 (by decide) ?_
  refine xpX12_29 hx hb hts hown hK hW 0 hcX12_init_X12 (x_mL hids1131 (x_mL hids1124 (x_mL hids1117 (x_mL hids1110 (x_mL hids1103 (x_mL hids1096 (x_mL hids1089 (x_mL hids1082 (x_mL hids1075 (x_mL hids1068 (x_mL hids1061 (x_mL hids1054 (x_mL hids1047 (x_mL hids1040 (x_mL hids1033 (x_mL hids1026 (x_mL hids1019 (x_mL hids1012 (x_mL hids1005 hm_this))))))))))))))))))) lR_0 (hts _ hwX12_init_23) dX12_init_160 (fun σ1134 H locs hσ1134 hW => ?_)
  have h := h σ1134 hσ1134
  refine lv_aload_n hx hb dX12_init_163 rfl (lv_at hl 0 rfl) ?_
  refine lv_bipush (v := 8) hx hb dX12_init_164 (by decide) ?_
  obtain ⟨⟨hq1135a, hq1135d, hq1135r⟩, h⟩ := h
  refine x_newj hx hb hts hwX12_init_24 hK hW hA 20 8 hq1135d hq1135a hq1135r (by decide) rfl (Nat.le_of_ble_eq_true rfl) (Nat.le_of_ble_eq_true rfl) (Nat.le_of_ble_eq_true rfl) dX12_init_166 (fun ad1137 H hAd1138 hW => ?_)
  obtain ⟨σ1136, hσ1136⟩ : ∃ τ, τ = nC σ1134 20 := ⟨_, rfl⟩
  rw [← hσ1136] at hW
  obtain ⟨ids1139, hids1139⟩ : ∃ x, x = ids1131 ++ [20] := ⟨_, rfl⟩
  rw [← hids1139] at hW
  have h := h σ1136 hσ1136 ids1139 hids1139
  have e1140 : ad1129 0 = ad1137 0 := (hAd1138 _ (x_ne (x_mL hids1131 (x_mL hids1124 (x_mL hids1117 (x_mL hids1110 (x_mL hids1103 (x_mL hids1096 (x_mL hids1089 (x_mL hids1082 (x_mL hids1075 (x_mL hids1068 (x_mL hids1061 (x_mL hids1054 (x_mL hids1047 (x_mL hids1040 (x_mL hids1033 (x_mL hids1026 (x_mL hids1019 (x_mL hids1012 (x_mL hids1005 hm_this))))))))))))))))))) hq1135d)).symm
  rw [e1140] at hl
  rw [e1140]
  refine xfX12_31 hx hb hts hown hK hW 0 hcX12_init_X12 (x_mL hids1139 (x_mL hids1131 (x_mL hids1124 (x_mL hids1117 (x_mL hids1110 (x_mL hids1103 (x_mL hids1096 (x_mL hids1089 (x_mL hids1082 (x_mL hids1075 (x_mL hids1068 (x_mL hids1061 (x_mL hids1054 (x_mL hids1047 (x_mL hids1040 (x_mL hids1033 (x_mL hids1026 (x_mL hids1019 (x_mL hids1012 (x_mL hids1005 hm_this)))))))))))))))))))) lR_0 (hts _ hwX12_init_25) hin2 rfl rfl dX12_init_168 (fun σ1141 H locs hσ1141 hW => ?_)
  have h := h σ1141 hσ1141
  refine lv_aload_n hx hb dX12_init_171 rfl (lv_at hl 0 rfl) ?_
  refine lv_bipush (v := 8) hx hb dX12_init_172 (by decide) ?_
  obtain ⟨⟨hq1142a, hq1142d, hq1142r⟩, h⟩ := h
  refine x_newj hx hb hts hwX12_init_24 hK hW hA 21 8 hq1142d hq1142a hq1142r (by decide) rfl (Nat.le_of_ble_eq_true rfl) (Nat.le_of_ble_eq_true rfl) (Nat.le_of_ble_eq_true rfl) dX12_init_174 (fun ad1144 H hAd1145 hW => ?_)
  obtain ⟨σ1143, hσ1143⟩ : ∃ τ, τ = nC σ1141 21 := ⟨_, rfl⟩
  rw [← hσ1143] at hW
  obtain ⟨ids1146, hids1146⟩ : ∃ x, x = ids1139 ++ [21] := ⟨_, rfl⟩
  rw [← hids1146] at hW
  have h := h σ1143 hσ1143 ids1146 hids1146
  have e1147 : ad1137 0 = ad1144 0 := (hAd1145 _ (x_ne (x_mL hids1139 (x_mL hids1131 (x_mL hids1124 (x_mL hids1117 (x_mL hids1110 (x_mL hids1103 (x_mL hids1096 (x_mL hids1089 (x_mL hids1082 (x_mL hids1075 (x_mL hids1068 (x_mL hids1061 (x_mL hids1054 (x_mL hids1047 (x_mL hids1040 (x_mL hids1033 (x_mL hids1026 (x_mL hids1019 (x_mL hids1012 (x_mL hids1005 hm_this)))))))))))))))))))) hq1142d)).symm
  rw [e1147] at hl
  rw [e1147]
  refine xfX12_32 hx hb hts hown hK hW 0 hcX12_init_X12 (x_mL hids1146 (x_mL hids1139 (x_mL hids1131 (x_mL hids1124 (x_mL hids1117 (x_mL hids1110 (x_mL hids1103 (x_mL hids1096 (x_mL hids1089 (x_mL hids1082 (x_mL hids1075 (x_mL hids1068 (x_mL hids1061 (x_mL hids1054 (x_mL hids1047 (x_mL hids1040 (x_mL hids1033 (x_mL hids1026 (x_mL hids1019 (x_mL hids1012 (x_mL hids1005 hm_this))))))))))))))))))))) lR_0 (hts _ hwX12_init_26) hin2 rfl rfl dX12_init_176 (fun σ1148 H locs hσ1148 hW => ?_)
  have h := h σ1148 hσ1148
  refine lv_aload_n hx hb dX12_init_179 rfl (lv_at hl 0 rfl) ?_
  refine lv_bipush (v := 8) hx hb dX12_init_180 (by decide) ?_
  obtain ⟨⟨hq1149a, hq1149d, hq1149r⟩, h⟩ := h
  refine x_newi hx hb hts hwX12_init_3 hK hW hA 22 8 hq1149d hq1149a hq1149r (by decide) rfl (Nat.le_of_ble_eq_true rfl) (Nat.le_of_ble_eq_true rfl) (Nat.le_of_ble_eq_true rfl) dX12_init_182 (fun ad1151 H hAd1152 hW => ?_)
  obtain ⟨σ1150, hσ1150⟩ : ∃ τ, τ = nC σ1148 22 := ⟨_, rfl⟩
  rw [← hσ1150] at hW
  obtain ⟨ids1153, hids1153⟩ : ∃ x, x = ids1146 ++ [22] := ⟨_, rfl⟩
  rw [← hids1153] at hW
  have h := h σ1150 hσ1150 ids1153 hids1153
  have e1154 : ad1144 0 = ad1151 0 := (hAd1152 _ (x_ne (x_mL hids1146 (x_mL hids1139 (x_mL hids1131 (x_mL hids1124 (x_mL hids1117 (x_mL hids1110 (x_mL hids1103 (x_mL hids1096 (x_mL hids1089 (x_mL hids1082 (x_mL hids1075 (x_mL hids1068 (x_mL hids1061 (x_mL hids1054 (x_mL hids1047 (x_mL hids1040 (x_mL hids1033 (x_mL hids1026 (x_mL hids1019 (x_mL hids1012 (x_mL hids1005 hm_this))))))))))))))))))))) hq1149d)).symm
  rw [e1154] at hl
  rw [e1154]
  refine xfX12_33 hx hb hts hown hK hW 0 hcX12_init_X12 (x_mL hids1153 (x_mL hids1146 (x_mL hids1139 (x_mL hids1131 (x_mL hids1124 (x_mL hids1117 (x_mL hids1110 (x_mL hids1103 (x_mL hids1096 (x_mL hids1089 (x_mL hids1082 (x_mL hids1075 (x_mL hids1068 (x_mL hids1061 (x_mL hids1054 (x_mL hids1047 (x_mL hids1040 (x_mL hids1033 (x_mL hids1026 (x_mL hids1019 (x_mL hids1012 (x_mL hids1005 hm_this)))))))))))))))))))))) lR_0 (hts _ hwX12_init_27) hin2 rfl rfl dX12_init_184 (fun σ1155 H locs hσ1155 hW => ?_)
  have h := h σ1155 hσ1155
  refine lv_aload_n hx hb dX12_init_187 rfl (lv_at hl 0 rfl) ?_
  refine lv_iconst (v := (-1)) hx hb dX12_init_188 (by decide) ?_
  refine xpX12_34 hx hb hts hown hK hW 0 hcX12_init_X12 (x_mL hids1153 (x_mL hids1146 (x_mL hids1139 (x_mL hids1131 (x_mL hids1124 (x_mL hids1117 (x_mL hids1110 (x_mL hids1103 (x_mL hids1096 (x_mL hids1089 (x_mL hids1082 (x_mL hids1075 (x_mL hids1068 (x_mL hids1061 (x_mL hids1054 (x_mL hids1047 (x_mL hids1040 (x_mL hids1033 (x_mL hids1026 (x_mL hids1019 (x_mL hids1012 (x_mL hids1005 hm_this)))))))))))))))))))))) lR_0 (hts _ hwX12_init_28) dX12_init_189 (fun σ1156 H locs hσ1156 hW => ?_)
  have h := h σ1156 hσ1156
  refine lv_aload_n hx hb dX12_init_192 rfl (lv_at hl 0 rfl) ?_
  refine lv_iconst (v := 4) hx hb dX12_init_193 (by decide) ?_
  obtain ⟨⟨hq1157a, hq1157d, hq1157r⟩, h⟩ := h
  refine x_newi hx hb hts hwX12_init_3 hK hW hA 23 4 hq1157d hq1157a hq1157r (by decide) rfl (Nat.le_of_ble_eq_true rfl) (Nat.le_of_ble_eq_true rfl) (Nat.le_of_ble_eq_true rfl) dX12_init_194 (fun ad1159 H hAd1160 hW => ?_)
  obtain ⟨σ1158, hσ1158⟩ : ∃ τ, τ = nC σ1156 23 := ⟨_, rfl⟩
  rw [← hσ1158] at hW
  obtain ⟨ids1161, hids1161⟩ : ∃ x, x = ids1153 ++ [23] := ⟨_, rfl⟩
  rw [← hids1161] at hW
  have h := h σ1158 hσ1158 ids1161 hids1161
  have e1162 : ad1151 0 = ad1159 0 := (hAd1160 _ (x_ne (x_mL hids1153 (x_mL hids1146 (x_mL hids1139 (x_mL hids1131 (x_mL hids1124 (x_mL hids1117 (x_mL hids1110 (x_mL hids1103 (x_mL hids1096 (x_mL hids1089 (x_mL hids1082 (x_mL hids1075 (x_mL hids1068 (x_mL hids1061 (x_mL hids1054 (x_mL hids1047 (x_mL hids1040 (x_mL hids1033 (x_mL hids1026 (x_mL hids1019 (x_mL hids1012 (x_mL hids1005 hm_this)))))))))))))))))))))) hq1157d)).symm
  rw [e1162] at hl
  rw [e1162]
  refine xfX12_51 hx hb hts hown hK hW 0 hcX12_init_X12 (x_mL hids1161 (x_mL hids1153 (x_mL hids1146 (x_mL hids1139 (x_mL hids1131 (x_mL hids1124 (x_mL hids1117 (x_mL hids1110 (x_mL hids1103 (x_mL hids1096 (x_mL hids1089 (x_mL hids1082 (x_mL hids1075 (x_mL hids1068 (x_mL hids1061 (x_mL hids1054 (x_mL hids1047 (x_mL hids1040 (x_mL hids1033 (x_mL hids1026 (x_mL hids1019 (x_mL hids1012 (x_mL hids1005 hm_this))))))))))))))))))))))) lR_0 (hts _ hwX12_init_29) hin2 rfl rfl dX12_init_196 (fun σ1163 H locs hσ1163 hW => ?_)
  have h := h σ1163 hσ1163
  refine lv_aload_n hx hb dX12_init_199 rfl (lv_at hl 0 rfl) ?_
  refine lv_iconst (v := 4) hx hb dX12_init_200 (by decide) ?_
  obtain ⟨⟨hq1164a, hq1164d, hq1164r⟩, h⟩ := h
  refine x_newi hx hb hts hwX12_init_3 hK hW hA 24 4 hq1164d hq1164a hq1164r (by decide) rfl (Nat.le_of_ble_eq_true rfl) (Nat.le_of_ble_eq_true rfl) (Nat.le_of_ble_eq_true rfl) dX12_init_201 (fun ad1166 H hAd1167 hW => ?_)
  obtain ⟨σ1165, hσ1165⟩ : ∃ τ, τ = nC σ1163 24 := ⟨_, rfl⟩
  rw [← hσ1165] at hW
  obtain ⟨ids1168, hids1168⟩ : ∃ x, x = ids1161 ++ [24] := ⟨_, rfl⟩
  rw [← hids1168] at hW
  have h := h σ1165 hσ1165 ids1168 hids1168
  have e1169 : ad1159 0 = ad1166 0 := (hAd1167 _ (x_ne (x_mL hids1161 (x_mL hids1153 (x_mL hids1146 (x_mL hids1139 (x_mL hids1131 (x_mL hids1124 (x_mL hids1117 (x_mL hids1110 (x_mL hids1103 (x_mL hids1096 (x_mL hids1089 (x_mL hids1082 (x_mL hids1075 (x_mL hids1068 (x_mL hids1061 (x_mL hids1054 (x_mL hids1047 (x_mL hids1040 (x_mL hids1033 (x_mL hids1026 (x_mL hids1019 (x_mL hids1012 (x_mL hids1005 hm_this))))))))))))))))))))))) hq1164d)).symm
  rw [e1169] at hl
  rw [e1169]
  refine xfX12_52 hx hb hts hown hK hW 0 hcX12_init_X12 (x_mL hids1168 (x_mL hids1161 (x_mL hids1153 (x_mL hids1146 (x_mL hids1139 (x_mL hids1131 (x_mL hids1124 (x_mL hids1117 (x_mL hids1110 (x_mL hids1103 (x_mL hids1096 (x_mL hids1089 (x_mL hids1082 (x_mL hids1075 (x_mL hids1068 (x_mL hids1061 (x_mL hids1054 (x_mL hids1047 (x_mL hids1040 (x_mL hids1033 (x_mL hids1026 (x_mL hids1019 (x_mL hids1012 (x_mL hids1005 hm_this)))))))))))))))))))))))) lR_0 (hts _ hwX12_init_30) hin2 rfl rfl dX12_init_203 (fun σ1170 H locs hσ1170 hW => ?_)
  have h := h σ1170 hσ1170
  refine lv_aload_n hx hb dX12_init_206 rfl (lv_at hl 0 rfl) ?_
  refine lv_bipush (v := 7) hx hb dX12_init_207 (by decide) ?_
  obtain ⟨⟨hq1171a, hq1171d, hq1171r⟩, h⟩ := h
  refine x_newi hx hb hts hwX12_init_3 hK hW hA 25 7 hq1171d hq1171a hq1171r (by decide) rfl (Nat.le_of_ble_eq_true rfl) (Nat.le_of_ble_eq_true rfl) (Nat.le_of_ble_eq_true rfl) dX12_init_209 (fun ad1173 H hAd1174 hW => ?_)
  obtain ⟨σ1172, hσ1172⟩ : ∃ τ, τ = nC σ1170 25 := ⟨_, rfl⟩
  rw [← hσ1172] at hW
  obtain ⟨ids1175, hids1175⟩ : ∃ x, x = ids1168 ++ [25] := ⟨_, rfl⟩
  rw [← hids1175] at hW
  have h := h σ1172 hσ1172 ids1175 hids1175
  have e1176 : ad1166 0 = ad1173 0 := (hAd1174 _ (x_ne (x_mL hids1168 (x_mL hids1161 (x_mL hids1153 (x_mL hids1146 (x_mL hids1139 (x_mL hids1131 (x_mL hids1124 (x_mL hids1117 (x_mL hids1110 (x_mL hids1103 (x_mL hids1096 (x_mL hids1089 (x_mL hids1082 (x_mL hids1075 (x_mL hids1068 (x_mL hids1061 (x_mL hids1054 (x_mL hids1047 (x_mL hids1040 (x_mL hids1033 (x_mL hids1026 (x_mL hids1019 (x_mL hids1012 (x_mL hids1005 hm_this)))))))))))))))))))))))) hq1171d)).symm
  rw [e1176] at hl
  rw [e1176]
  refine xfX12_55 hx hb hts hown hK hW 0 hcX12_init_X12 (x_mL hids1175 (x_mL hids1168 (x_mL hids1161 (x_mL hids1153 (x_mL hids1146 (x_mL hids1139 (x_mL hids1131 (x_mL hids1124 (x_mL hids1117 (x_mL hids1110 (x_mL hids1103 (x_mL hids1096 (x_mL hids1089 (x_mL hids1082 (x_mL hids1075 (x_mL hids1068 (x_mL hids1061 (x_mL hids1054 (x_mL hids1047 (x_mL hids1040 (x_mL hids1033 (x_mL hids1026 (x_mL hids1019 (x_mL hids1012 (x_mL hids1005 hm_this))))))))))))))))))))))))) lR_0 (hts _ hwX12_init_31) hin2 rfl rfl dX12_init_211 (fun σ1177 H locs hσ1177 hW => ?_)
  have h := h σ1177 hσ1177
  refine lv_aload_n hx hb dX12_init_214 rfl (lv_at hl 0 rfl) ?_
  refine lv_bipush (v := 7) hx hb dX12_init_215 (by decide) ?_
  obtain ⟨⟨hq1178a, hq1178d, hq1178r⟩, h⟩ := h
  refine x_newi hx hb hts hwX12_init_3 hK hW hA 26 7 hq1178d hq1178a hq1178r (by decide) rfl (Nat.le_of_ble_eq_true rfl) (Nat.le_of_ble_eq_true rfl) (Nat.le_of_ble_eq_true rfl) dX12_init_217 (fun ad1180 H hAd1181 hW => ?_)
  obtain ⟨σ1179, hσ1179⟩ : ∃ τ, τ = nC σ1177 26 := ⟨_, rfl⟩
  rw [← hσ1179] at hW
  obtain ⟨ids1182, hids1182⟩ : ∃ x, x = ids1175 ++ [26] := ⟨_, rfl⟩
  rw [← hids1182] at hW
  have h := h σ1179 hσ1179 ids1182 hids1182
  have e1183 : ad1173 0 = ad1180 0 := (hAd1181 _ (x_ne (x_mL hids1175 (x_mL hids1168 (x_mL hids1161 (x_mL hids1153 (x_mL hids1146 (x_mL hids1139 (x_mL hids1131 (x_mL hids1124 (x_mL hids1117 (x_mL hids1110 (x_mL hids1103 (x_mL hids1096 (x_mL hids1089 (x_mL hids1082 (x_mL hids1075 (x_mL hids1068 (x_mL hids1061 (x_mL hids1054 (x_mL hids1047 (x_mL hids1040 (x_mL hids1033 (x_mL hids1026 (x_mL hids1019 (x_mL hids1012 (x_mL hids1005 hm_this))))))))))))))))))))))))) hq1178d)).symm
  rw [e1183] at hl
  rw [e1183]
  refine xfX12_56 hx hb hts hown hK hW 0 hcX12_init_X12 (x_mL hids1182 (x_mL hids1175 (x_mL hids1168 (x_mL hids1161 (x_mL hids1153 (x_mL hids1146 (x_mL hids1139 (x_mL hids1131 (x_mL hids1124 (x_mL hids1117 (x_mL hids1110 (x_mL hids1103 (x_mL hids1096 (x_mL hids1089 (x_mL hids1082 (x_mL hids1075 (x_mL hids1068 (x_mL hids1061 (x_mL hids1054 (x_mL hids1047 (x_mL hids1040 (x_mL hids1033 (x_mL hids1026 (x_mL hids1019 (x_mL hids1012 (x_mL hids1005 hm_this)))))))))))))))))))))))))) lR_0 (hts _ hwX12_init_32) hin2 rfl rfl dX12_init_219 (fun σ1184 H locs hσ1184 hW => ?_)
  have h := h σ1184 hσ1184
  refine lv_aload_n hx hb dX12_init_222 rfl (lv_at hl 0 rfl) ?_
  refine lv_bipush (v := 7) hx hb dX12_init_223 (by decide) ?_
  obtain ⟨⟨hq1185a, hq1185d, hq1185r⟩, h⟩ := h
  refine x_newi hx hb hts hwX12_init_3 hK hW hA 27 7 hq1185d hq1185a hq1185r (by decide) rfl (Nat.le_of_ble_eq_true rfl) (Nat.le_of_ble_eq_true rfl) (Nat.le_of_ble_eq_true rfl) dX12_init_225 (fun ad1187 H hAd1188 hW => ?_)
  obtain ⟨σ1186, hσ1186⟩ : ∃ τ, τ = nC σ1184 27 := ⟨_, rfl⟩
  rw [← hσ1186] at hW
  obtain ⟨ids1189, hids1189⟩ : ∃ x, x = ids1182 ++ [27] := ⟨_, rfl⟩
  rw [← hids1189] at hW
  have h := h σ1186 hσ1186 ids1189 hids1189
  have e1190 : ad1180 0 = ad1187 0 := (hAd1188 _ (x_ne (x_mL hids1182 (x_mL hids1175 (x_mL hids1168 (x_mL hids1161 (x_mL hids1153 (x_mL hids1146 (x_mL hids1139 (x_mL hids1131 (x_mL hids1124 (x_mL hids1117 (x_mL hids1110 (x_mL hids1103 (x_mL hids1096 (x_mL hids1089 (x_mL hids1082 (x_mL hids1075 (x_mL hids1068 (x_mL hids1061 (x_mL hids1054 (x_mL hids1047 (x_mL hids1040 (x_mL hids1033 (x_mL hids1026 (x_mL hids1019 (x_mL hids1012 (x_mL hids1005 hm_this)))))))))))))))))))))))))) hq1185d)).symm
  rw [e1190] at hl
  rw [e1190]
  refine xfX12_57 hx hb hts hown hK hW 0 hcX12_init_X12 (x_mL hids1189 (x_mL hids1182 (x_mL hids1175 (x_mL hids1168 (x_mL hids1161 (x_mL hids1153 (x_mL hids1146 (x_mL hids1139 (x_mL hids1131 (x_mL hids1124 (x_mL hids1117 (x_mL hids1110 (x_mL hids1103 (x_mL hids1096 (x_mL hids1089 (x_mL hids1082 (x_mL hids1075 (x_mL hids1068 (x_mL hids1061 (x_mL hids1054 (x_mL hids1047 (x_mL hids1040 (x_mL hids1033 (x_mL hids1026 (x_mL hids1019 (x_mL hids1012 (x_mL hids1005 hm_this))))))))))))))))))))))))))) lR_0 (hts _ hwX12_init_33) hin2 rfl rfl dX12_init_227 (fun σ1191 H locs hσ1191 hW => ?_)
  have h := h σ1191 hσ1191
  refine lv_aload_n hx hb dX12_init_230 rfl (lv_at hl 0 rfl) ?_
  refine lv_bipush (v := 7) hx hb dX12_init_231 (by decide) ?_
  obtain ⟨⟨hq1192a, hq1192d, hq1192r⟩, h⟩ := h
  refine x_newi hx hb hts hwX12_init_3 hK hW hA 28 7 hq1192d hq1192a hq1192r (by decide) rfl (Nat.le_of_ble_eq_true rfl) (Nat.le_of_ble_eq_true rfl) (Nat.le_of_ble_eq_true rfl) dX12_init_233 (fun ad1194 H hAd1195 hW => ?_)
  obtain ⟨σ1193, hσ1193⟩ : ∃ τ, τ = nC σ1191 28 := ⟨_, rfl⟩
  rw [← hσ1193] at hW
  obtain ⟨ids1196, hids1196⟩ : ∃ x, x = ids1189 ++ [28] := ⟨_, rfl⟩
  rw [← hids1196] at hW
  have h := h σ1193 hσ1193 ids1196 hids1196
  have e1197 : ad1187 0 = ad1194 0 := (hAd1195 _ (x_ne (x_mL hids1189 (x_mL hids1182 (x_mL hids1175 (x_mL hids1168 (x_mL hids1161 (x_mL hids1153 (x_mL hids1146 (x_mL hids1139 (x_mL hids1131 (x_mL hids1124 (x_mL hids1117 (x_mL hids1110 (x_mL hids1103 (x_mL hids1096 (x_mL hids1089 (x_mL hids1082 (x_mL hids1075 (x_mL hids1068 (x_mL hids1061 (x_mL hids1054 (x_mL hids1047 (x_mL hids1040 (x_mL hids1033 (x_mL hids1026 (x_mL hids1019 (x_mL hids1012 (x_mL hids1005 hm_this))))))))))))))))))))))))))) hq1192d)).symm
  rw [e1197] at hl
  rw [e1197]
  refine xfX12_58 hx hb hts hown hK hW 0 hcX12_init_X12 (x_mL hids1196 (x_mL hids1189 (x_mL hids1182 (x_mL hids1175 (x_mL hids1168 (x_mL hids1161 (x_mL hids1153 (x_mL hids1146 (x_mL hids1139 (x_mL hids1131 (x_mL hids1124 (x_mL hids1117 (x_mL hids1110 (x_mL hids1103 (x_mL hids1096 (x_mL hids1089 (x_mL hids1082 (x_mL hids1075 (x_mL hids1068 (x_mL hids1061 (x_mL hids1054 (x_mL hids1047 (x_mL hids1040 (x_mL hids1033 (x_mL hids1026 (x_mL hids1019 (x_mL hids1012 (x_mL hids1005 hm_this)))))))))))))))))))))))))))) lR_0 (hts _ hwX12_init_34) hin2 rfl rfl dX12_init_235 (fun σ1198 H locs hσ1198 hW => ?_)
  have h := h σ1198 hσ1198
  refine lv_aload_n hx hb dX12_init_238 rfl (lv_at hl 0 rfl) ?_
  refine lv_bipush (v := 10) hx hb dX12_init_239 (by decide) ?_
  obtain ⟨⟨hq1199a, hq1199d, hq1199r⟩, h⟩ := h
  refine x_newi hx hb hts hwX12_init_3 hK hW hA 29 10 hq1199d hq1199a hq1199r (by decide) rfl (Nat.le_of_ble_eq_true rfl) (Nat.le_of_ble_eq_true rfl) (Nat.le_of_ble_eq_true rfl) dX12_init_241 (fun ad1201 H hAd1202 hW => ?_)
  obtain ⟨σ1200, hσ1200⟩ : ∃ τ, τ = nC σ1198 29 := ⟨_, rfl⟩
  rw [← hσ1200] at hW
  obtain ⟨ids1203, hids1203⟩ : ∃ x, x = ids1196 ++ [29] := ⟨_, rfl⟩
  rw [← hids1203] at hW
  have h := h σ1200 hσ1200 ids1203 hids1203
  have e1204 : ad1194 0 = ad1201 0 := (hAd1202 _ (x_ne (x_mL hids1196 (x_mL hids1189 (x_mL hids1182 (x_mL hids1175 (x_mL hids1168 (x_mL hids1161 (x_mL hids1153 (x_mL hids1146 (x_mL hids1139 (x_mL hids1131 (x_mL hids1124 (x_mL hids1117 (x_mL hids1110 (x_mL hids1103 (x_mL hids1096 (x_mL hids1089 (x_mL hids1082 (x_mL hids1075 (x_mL hids1068 (x_mL hids1061 (x_mL hids1054 (x_mL hids1047 (x_mL hids1040 (x_mL hids1033 (x_mL hids1026 (x_mL hids1019 (x_mL hids1012 (x_mL hids1005 hm_this)))))))))))))))))))))))))))) hq1199d)).symm
  rw [e1204] at hl
  rw [e1204]
  refine xfX12_59 hx hb hts hown hK hW 0 hcX12_init_X12 (x_mL hids1203 (x_mL hids1196 (x_mL hids1189 (x_mL hids1182 (x_mL hids1175 (x_mL hids1168 (x_mL hids1161 (x_mL hids1153 (x_mL hids1146 (x_mL hids1139 (x_mL hids1131 (x_mL hids1124 (x_mL hids1117 (x_mL hids1110 (x_mL hids1103 (x_mL hids1096 (x_mL hids1089 (x_mL hids1082 (x_mL hids1075 (x_mL hids1068 (x_mL hids1061 (x_mL hids1054 (x_mL hids1047 (x_mL hids1040 (x_mL hids1033 (x_mL hids1026 (x_mL hids1019 (x_mL hids1012 (x_mL hids1005 hm_this))))))))))))))))))))))))))))) lR_0 (hts _ hwX12_init_35) hin2 rfl rfl dX12_init_243 (fun σ1205 H locs hσ1205 hW => ?_)
  have h := h σ1205 hσ1205
  refine lv_aload_n hx hb dX12_init_246 rfl (lv_at hl 0 rfl) ?_
  refine lv_bipush (v := 10) hx hb dX12_init_247 (by decide) ?_
  obtain ⟨⟨hq1206a, hq1206d, hq1206r⟩, h⟩ := h
  refine x_newi hx hb hts hwX12_init_3 hK hW hA 30 10 hq1206d hq1206a hq1206r (by decide) rfl (Nat.le_of_ble_eq_true rfl) (Nat.le_of_ble_eq_true rfl) (Nat.le_of_ble_eq_true rfl) dX12_init_249 (fun ad1208 H hAd1209 hW => ?_)
  obtain ⟨σ1207, hσ1207⟩ : ∃ τ, τ = nC σ1205 30 := ⟨_, rfl⟩
  rw [← hσ1207] at hW
  obtain ⟨ids1210, hids1210⟩ : ∃ x, x = ids1203 ++ [30] := ⟨_, rfl⟩
  rw [← hids1210] at hW
  have h := h σ1207 hσ1207 ids1210 hids1210
  have e1211 : ad1201 0 = ad1208 0 := (hAd1209 _ (x_ne (x_mL hids1203 (x_mL hids1196 (x_mL hids1189 (x_mL hids1182 (x_mL hids1175 (x_mL hids1168 (x_mL hids1161 (x_mL hids1153 (x_mL hids1146 (x_mL hids1139 (x_mL hids1131 (x_mL hids1124 (x_mL hids1117 (x_mL hids1110 (x_mL hids1103 (x_mL hids1096 (x_mL hids1089 (x_mL hids1082 (x_mL hids1075 (x_mL hids1068 (x_mL hids1061 (x_mL hids1054 (x_mL hids1047 (x_mL hids1040 (x_mL hids1033 (x_mL hids1026 (x_mL hids1019 (x_mL hids1012 (x_mL hids1005 hm_this))))))))))))))))))))))))))))) hq1206d)).symm
  rw [e1211] at hl
  rw [e1211]
  refine xfX12_60 hx hb hts hown hK hW 0 hcX12_init_X12 (x_mL hids1210 (x_mL hids1203 (x_mL hids1196 (x_mL hids1189 (x_mL hids1182 (x_mL hids1175 (x_mL hids1168 (x_mL hids1161 (x_mL hids1153 (x_mL hids1146 (x_mL hids1139 (x_mL hids1131 (x_mL hids1124 (x_mL hids1117 (x_mL hids1110 (x_mL hids1103 (x_mL hids1096 (x_mL hids1089 (x_mL hids1082 (x_mL hids1075 (x_mL hids1068 (x_mL hids1061 (x_mL hids1054 (x_mL hids1047 (x_mL hids1040 (x_mL hids1033 (x_mL hids1026 (x_mL hids1019 (x_mL hids1012 (x_mL hids1005 hm_this)))))))))))))))))))))))))))))) lR_0 (hts _ hwX12_init_36) hin2 rfl rfl dX12_init_251 (fun σ1212 H locs hσ1212 hW => ?_)
  have h := h σ1212 hσ1212
  refine lv_aload_n hx hb dX12_init_254 rfl (lv_at hl 0 rfl) ?_
  refine lv_iconst (v := 4) hx hb dX12_init_255 (by decide) ?_
  obtain ⟨⟨hq1213a, hq1213d, hq1213r⟩, h⟩ := h
  refine x_newz hx hb hts hwX12_init_37 hK hW hA 31 4 hq1213d hq1213a hq1213r (by decide) rfl (Nat.le_of_ble_eq_true rfl) (Nat.le_of_ble_eq_true rfl) (Nat.le_of_ble_eq_true rfl) dX12_init_256 (fun ad1215 H hAd1216 hW => ?_)
  obtain ⟨σ1214, hσ1214⟩ : ∃ τ, τ = nC σ1212 31 := ⟨_, rfl⟩
  rw [← hσ1214] at hW
  obtain ⟨ids1217, hids1217⟩ : ∃ x, x = ids1210 ++ [31] := ⟨_, rfl⟩
  rw [← hids1217] at hW
  have h := h σ1214 hσ1214 ids1217 hids1217
  have e1218 : ad1208 0 = ad1215 0 := (hAd1216 _ (x_ne (x_mL hids1210 (x_mL hids1203 (x_mL hids1196 (x_mL hids1189 (x_mL hids1182 (x_mL hids1175 (x_mL hids1168 (x_mL hids1161 (x_mL hids1153 (x_mL hids1146 (x_mL hids1139 (x_mL hids1131 (x_mL hids1124 (x_mL hids1117 (x_mL hids1110 (x_mL hids1103 (x_mL hids1096 (x_mL hids1089 (x_mL hids1082 (x_mL hids1075 (x_mL hids1068 (x_mL hids1061 (x_mL hids1054 (x_mL hids1047 (x_mL hids1040 (x_mL hids1033 (x_mL hids1026 (x_mL hids1019 (x_mL hids1012 (x_mL hids1005 hm_this)))))))))))))))))))))))))))))) hq1213d)).symm
  rw [e1218] at hl
  rw [e1218]
  refine xfX12_67 hx hb hts hown hK hW 0 hcX12_init_X12 (x_mL hids1217 (x_mL hids1210 (x_mL hids1203 (x_mL hids1196 (x_mL hids1189 (x_mL hids1182 (x_mL hids1175 (x_mL hids1168 (x_mL hids1161 (x_mL hids1153 (x_mL hids1146 (x_mL hids1139 (x_mL hids1131 (x_mL hids1124 (x_mL hids1117 (x_mL hids1110 (x_mL hids1103 (x_mL hids1096 (x_mL hids1089 (x_mL hids1082 (x_mL hids1075 (x_mL hids1068 (x_mL hids1061 (x_mL hids1054 (x_mL hids1047 (x_mL hids1040 (x_mL hids1033 (x_mL hids1026 (x_mL hids1019 (x_mL hids1012 (x_mL hids1005 hm_this))))))))))))))))))))))))))))))) lR_0 (hts _ hwX12_init_38) hin2 rfl rfl dX12_init_258 (fun σ1219 H locs hσ1219 hW => ?_)
  have h := h σ1219 hσ1219
  refine lv_aload_n hx hb dX12_init_261 rfl (lv_at hl 0 rfl) ?_
  refine lv_iconst (v := 4) hx hb dX12_init_262 (by decide) ?_
  obtain ⟨⟨hq1220a, hq1220d, hq1220r⟩, h⟩ := h
  refine x_newi hx hb hts hwX12_init_3 hK hW hA 32 4 hq1220d hq1220a hq1220r (by decide) rfl (Nat.le_of_ble_eq_true rfl) (Nat.le_of_ble_eq_true rfl) (Nat.le_of_ble_eq_true rfl) dX12_init_263 (fun ad1222 H hAd1223 hW => ?_)
  obtain ⟨σ1221, hσ1221⟩ : ∃ τ, τ = nC σ1219 32 := ⟨_, rfl⟩
  rw [← hσ1221] at hW
  obtain ⟨ids1224, hids1224⟩ : ∃ x, x = ids1217 ++ [32] := ⟨_, rfl⟩
  rw [← hids1224] at hW
  have h := h σ1221 hσ1221 ids1224 hids1224
  have e1225 : ad1215 0 = ad1222 0 := (hAd1223 _ (x_ne (x_mL hids1217 (x_mL hids1210 (x_mL hids1203 (x_mL hids1196 (x_mL hids1189 (x_mL hids1182 (x_mL hids1175 (x_mL hids1168 (x_mL hids1161 (x_mL hids1153 (x_mL hids1146 (x_mL hids1139 (x_mL hids1131 (x_mL hids1124 (x_mL hids1117 (x_mL hids1110 (x_mL hids1103 (x_mL hids1096 (x_mL hids1089 (x_mL hids1082 (x_mL hids1075 (x_mL hids1068 (x_mL hids1061 (x_mL hids1054 (x_mL hids1047 (x_mL hids1040 (x_mL hids1033 (x_mL hids1026 (x_mL hids1019 (x_mL hids1012 (x_mL hids1005 hm_this))))))))))))))))))))))))))))))) hq1220d)).symm
  rw [e1225] at hl
  rw [e1225]
  refine xfX12_68 hx hb hts hown hK hW 0 hcX12_init_X12 (x_mL hids1224 (x_mL hids1217 (x_mL hids1210 (x_mL hids1203 (x_mL hids1196 (x_mL hids1189 (x_mL hids1182 (x_mL hids1175 (x_mL hids1168 (x_mL hids1161 (x_mL hids1153 (x_mL hids1146 (x_mL hids1139 (x_mL hids1131 (x_mL hids1124 (x_mL hids1117 (x_mL hids1110 (x_mL hids1103 (x_mL hids1096 (x_mL hids1089 (x_mL hids1082 (x_mL hids1075 (x_mL hids1068 (x_mL hids1061 (x_mL hids1054 (x_mL hids1047 (x_mL hids1040 (x_mL hids1033 (x_mL hids1026 (x_mL hids1019 (x_mL hids1012 (x_mL hids1005 hm_this)))))))))))))))))))))))))))))))) lR_0 (hts _ hwX12_init_39) hin2 rfl rfl dX12_init_265 (fun σ1226 H locs hσ1226 hW => ?_)
  have h := h σ1226 hσ1226
  refine lv_aload_n hx hb dX12_init_268 rfl (lv_at hl 0 rfl) ?_
  refine lv_iconst (v := 4) hx hb dX12_init_269 (by decide) ?_
  obtain ⟨⟨hq1227a, hq1227d, hq1227r⟩, h⟩ := h
  refine x_newi hx hb hts hwX12_init_3 hK hW hA 33 4 hq1227d hq1227a hq1227r (by decide) rfl (Nat.le_of_ble_eq_true rfl) (Nat.le_of_ble_eq_true rfl) (Nat.le_of_ble_eq_true rfl) dX12_init_270 (fun ad1229 H hAd1230 hW => ?_)
  obtain ⟨σ1228, hσ1228⟩ : ∃ τ, τ = nC σ1226 33 := ⟨_, rfl⟩
  rw [← hσ1228] at hW
  obtain ⟨ids1231, hids1231⟩ : ∃ x, x = ids1224 ++ [33] := ⟨_, rfl⟩
  rw [← hids1231] at hW
  have h := h σ1228 hσ1228 ids1231 hids1231
  have e1232 : ad1222 0 = ad1229 0 := (hAd1230 _ (x_ne (x_mL hids1224 (x_mL hids1217 (x_mL hids1210 (x_mL hids1203 (x_mL hids1196 (x_mL hids1189 (x_mL hids1182 (x_mL hids1175 (x_mL hids1168 (x_mL hids1161 (x_mL hids1153 (x_mL hids1146 (x_mL hids1139 (x_mL hids1131 (x_mL hids1124 (x_mL hids1117 (x_mL hids1110 (x_mL hids1103 (x_mL hids1096 (x_mL hids1089 (x_mL hids1082 (x_mL hids1075 (x_mL hids1068 (x_mL hids1061 (x_mL hids1054 (x_mL hids1047 (x_mL hids1040 (x_mL hids1033 (x_mL hids1026 (x_mL hids1019 (x_mL hids1012 (x_mL hids1005 hm_this)))))))))))))))))))))))))))))))) hq1227d)).symm
  rw [e1232] at hl
  rw [e1232]
  refine xfX12_69 hx hb hts hown hK hW 0 hcX12_init_X12 (x_mL hids1231 (x_mL hids1224 (x_mL hids1217 (x_mL hids1210 (x_mL hids1203 (x_mL hids1196 (x_mL hids1189 (x_mL hids1182 (x_mL hids1175 (x_mL hids1168 (x_mL hids1161 (x_mL hids1153 (x_mL hids1146 (x_mL hids1139 (x_mL hids1131 (x_mL hids1124 (x_mL hids1117 (x_mL hids1110 (x_mL hids1103 (x_mL hids1096 (x_mL hids1089 (x_mL hids1082 (x_mL hids1075 (x_mL hids1068 (x_mL hids1061 (x_mL hids1054 (x_mL hids1047 (x_mL hids1040 (x_mL hids1033 (x_mL hids1026 (x_mL hids1019 (x_mL hids1012 (x_mL hids1005 hm_this))))))))))))))))))))))))))))))))) lR_0 (hts _ hwX12_init_40) hin2 rfl rfl dX12_init_272 (fun σ1233 H locs hσ1233 hW => ?_)
  have h := h σ1233 hσ1233
  refine lv_aload_n hx hb dX12_init_275 rfl (lv_at hl 0 rfl) ?_
  refine lv_sipush (v := 160) hx hb dX12_init_276 (by decide) ?_
  obtain ⟨⟨hq1234a, hq1234d, hq1234r⟩, h⟩ := h
  refine x_newi hx hb hts hwX12_init_3 hK hW hA 34 160 hq1234d hq1234a hq1234r (by decide) rfl (Nat.le_of_ble_eq_true rfl) (Nat.le_of_ble_eq_true rfl) (Nat.le_of_ble_eq_true rfl) dX12_init_279 (fun ad1236 H hAd1237 hW => ?_)
  obtain ⟨σ1235, hσ1235⟩ : ∃ τ, τ = nC σ1233 34 := ⟨_, rfl⟩
  rw [← hσ1235] at hW
  obtain ⟨ids1238, hids1238⟩ : ∃ x, x = ids1231 ++ [34] := ⟨_, rfl⟩
  rw [← hids1238] at hW
  have h := h σ1235 hσ1235 ids1238 hids1238
  have e1239 : ad1229 0 = ad1236 0 := (hAd1237 _ (x_ne (x_mL hids1231 (x_mL hids1224 (x_mL hids1217 (x_mL hids1210 (x_mL hids1203 (x_mL hids1196 (x_mL hids1189 (x_mL hids1182 (x_mL hids1175 (x_mL hids1168 (x_mL hids1161 (x_mL hids1153 (x_mL hids1146 (x_mL hids1139 (x_mL hids1131 (x_mL hids1124 (x_mL hids1117 (x_mL hids1110 (x_mL hids1103 (x_mL hids1096 (x_mL hids1089 (x_mL hids1082 (x_mL hids1075 (x_mL hids1068 (x_mL hids1061 (x_mL hids1054 (x_mL hids1047 (x_mL hids1040 (x_mL hids1033 (x_mL hids1026 (x_mL hids1019 (x_mL hids1012 (x_mL hids1005 hm_this))))))))))))))))))))))))))))))))) hq1234d)).symm
  rw [e1239] at hl
  rw [e1239]
  refine xfX12_70 hx hb hts hown hK hW 0 hcX12_init_X12 (x_mL hids1238 (x_mL hids1231 (x_mL hids1224 (x_mL hids1217 (x_mL hids1210 (x_mL hids1203 (x_mL hids1196 (x_mL hids1189 (x_mL hids1182 (x_mL hids1175 (x_mL hids1168 (x_mL hids1161 (x_mL hids1153 (x_mL hids1146 (x_mL hids1139 (x_mL hids1131 (x_mL hids1124 (x_mL hids1117 (x_mL hids1110 (x_mL hids1103 (x_mL hids1096 (x_mL hids1089 (x_mL hids1082 (x_mL hids1075 (x_mL hids1068 (x_mL hids1061 (x_mL hids1054 (x_mL hids1047 (x_mL hids1040 (x_mL hids1033 (x_mL hids1026 (x_mL hids1019 (x_mL hids1012 (x_mL hids1005 hm_this)))))))))))))))))))))))))))))))))) lR_0 (hts _ hwX12_init_41) hin2 rfl rfl dX12_init_281 (fun σ1240 H locs hσ1240 hW => ?_)
  have h := h σ1240 hσ1240
  refine lv_aload_n hx hb dX12_init_284 rfl (lv_at hl 0 rfl) ?_
  refine lv_iconst (v := 0) hx hb dX12_init_285 (by decide) ?_
  refine lv_ldc2 hx hb hown (hts _ hwX12_init_42) dX12_init_286 ?_
  obtain ⟨hv1241, h⟩ := h
  have hW := x_restat hW hv1241
  obtain ⟨h71242, h⟩ := h
  refine x_callv (va_runV (As := [.int (0 : Int32), .long (8603389805959343969 : Int64)]) (rest := []) ⟨hx, hb, hml, hown, hts⟩ (J_X12_spell l h71242 h) (cwV 2 hts gX12_init_X12_spell rfl rfl rfl hdV_X12_spell ⟨Nat.le_of_ble_eq_true rfl, Nat.le_of_ble_eq_true rfl⟩) (x_preV (ci := 12) hK hZ hA hW (x_mL hids1238 (x_mL hids1231 (x_mL hids1224 (x_mL hids1217 (x_mL hids1210 (x_mL hids1203 (x_mL hids1196 (x_mL hids1189 (x_mL hids1182 (x_mL hids1175 (x_mL hids1168 (x_mL hids1161 (x_mL hids1153 (x_mL hids1146 (x_mL hids1139 (x_mL hids1131 (x_mL hids1124 (x_mL hids1117 (x_mL hids1110 (x_mL hids1103 (x_mL hids1096 (x_mL hids1089 (x_mL hids1082 (x_mL hids1075 (x_mL hids1068 (x_mL hids1061 (x_mL hids1054 (x_mL hids1047 (x_mL hids1040 (x_mL hids1033 (x_mL hids1026 (x_mL hids1019 (x_mL hids1012 (x_mL hids1005 hm_this)))))))))))))))))))))))))))))))))) lR_0 rfl) rfl rfl hl.1 rfl (lv_room (Nat.le_of_ble_eq_true rfl)) dX12_init_289 ⟨Nat.le_of_ble_eq_true rfl, Nat.le_of_ble_eq_true rfl⟩) hW hA (fun σ1243 H locs h hW => ?_)
  try dsimp only at h
  refine lv_aload_n hx hb dX12_init_292 rfl (lv_at hl 0 rfl) ?_
  refine lv_bipush (v := 8) hx hb dX12_init_293 (by decide) ?_
  refine lv_ldc2 hx hb hown (hts _ hwX12_init_43) dX12_init_295 ?_
  refine x_callv (va_runV (As := [.int (8 : Int32), .long (7214812921726989682 : Int64)]) (rest := []) ⟨hx, hb, hml, hown, hts⟩ (J_X12_spell l h71242 h) (cwV 2 hts gX12_init_X12_spell rfl rfl rfl hdV_X12_spell ⟨Nat.le_of_ble_eq_true rfl, Nat.le_of_ble_eq_true rfl⟩) (x_preV (ci := 12) hK hZ hA hW (x_mL hids1238 (x_mL hids1231 (x_mL hids1224 (x_mL hids1217 (x_mL hids1210 (x_mL hids1203 (x_mL hids1196 (x_mL hids1189 (x_mL hids1182 (x_mL hids1175 (x_mL hids1168 (x_mL hids1161 (x_mL hids1153 (x_mL hids1146 (x_mL hids1139 (x_mL hids1131 (x_mL hids1124 (x_mL hids1117 (x_mL hids1110 (x_mL hids1103 (x_mL hids1096 (x_mL hids1089 (x_mL hids1082 (x_mL hids1075 (x_mL hids1068 (x_mL hids1061 (x_mL hids1054 (x_mL hids1047 (x_mL hids1040 (x_mL hids1033 (x_mL hids1026 (x_mL hids1019 (x_mL hids1012 (x_mL hids1005 hm_this)))))))))))))))))))))))))))))))))) lR_0 rfl) rfl rfl hl.1 rfl (lv_room (Nat.le_of_ble_eq_true rfl)) dX12_init_298 ⟨Nat.le_of_ble_eq_true rfl, Nat.le_of_ble_eq_true rfl⟩) hW hA (fun σ1245 H locs h hW => ?_)
  try dsimp only at h
  refine lv_aload_n hx hb dX12_init_301 rfl (lv_at hl 0 rfl) ?_
  refine lv_bipush (v := 16) hx hb dX12_init_302 (by decide) ?_
  refine lv_ldc2 hx hb hown (hts _ hwX12_init_44) dX12_init_304 ?_
  refine x_callv (va_runV (As := [.int (16 : Int32), .long (8295695524077071972 : Int64)]) (rest := []) ⟨hx, hb, hml, hown, hts⟩ (J_X12_spell l h71242 h) (cwV 2 hts gX12_init_X12_spell rfl rfl rfl hdV_X12_spell ⟨Nat.le_of_ble_eq_true rfl, Nat.le_of_ble_eq_true rfl⟩) (x_preV (ci := 12) hK hZ hA hW (x_mL hids1238 (x_mL hids1231 (x_mL hids1224 (x_mL hids1217 (x_mL hids1210 (x_mL hids1203 (x_mL hids1196 (x_mL hids1189 (x_mL hids1182 (x_mL hids1175 (x_mL hids1168 (x_mL hids1161 (x_mL hids1153 (x_mL hids1146 (x_mL hids1139 (x_mL hids1131 (x_mL hids1124 (x_mL hids1117 (x_mL hids1110 (x_mL hids1103 (x_mL hids1096 (x_mL hids1089 (x_mL hids1082 (x_mL hids1075 (x_mL hids1068 (x_mL hids1061 (x_mL hids1054 (x_mL hids1047 (x_mL hids1040 (x_mL hids1033 (x_mL hids1026 (x_mL hids1019 (x_mL hids1012 (x_mL hids1005 hm_this)))))))))))))))))))))))))))))))))) lR_0 rfl) rfl rfl hl.1 rfl (lv_room (Nat.le_of_ble_eq_true rfl)) dX12_init_307 ⟨Nat.le_of_ble_eq_true rfl, Nat.le_of_ble_eq_true rfl⟩) hW hA (fun σ1247 H locs h hW => ?_)
  try dsimp only at h
  refine lv_aload_n hx hb dX12_init_310 rfl (lv_at hl 0 rfl) ?_
  refine lv_bipush (v := 24) hx hb dX12_init_311 (by decide) ?_
  refine lv_ldc2 hx hb hown (hts _ hwX12_init_45) dX12_init_313 ?_
  refine x_callv (va_runV (As := [.int (24 : Int32), .long (2320796625594184289 : Int64)]) (rest := []) ⟨hx, hb, hml, hown, hts⟩ (J_X12_spell l h71242 h) (cwV 2 hts gX12_init_X12_spell rfl rfl rfl hdV_X12_spell ⟨Nat.le_of_ble_eq_true rfl, Nat.le_of_ble_eq_true rfl⟩) (x_preV (ci := 12) hK hZ hA hW (x_mL hids1238 (x_mL hids1231 (x_mL hids1224 (x_mL hids1217 (x_mL hids1210 (x_mL hids1203 (x_mL hids1196 (x_mL hids1189 (x_mL hids1182 (x_mL hids1175 (x_mL hids1168 (x_mL hids1161 (x_mL hids1153 (x_mL hids1146 (x_mL hids1139 (x_mL hids1131 (x_mL hids1124 (x_mL hids1117 (x_mL hids1110 (x_mL hids1103 (x_mL hids1096 (x_mL hids1089 (x_mL hids1082 (x_mL hids1075 (x_mL hids1068 (x_mL hids1061 (x_mL hids1054 (x_mL hids1047 (x_mL hids1040 (x_mL hids1033 (x_mL hids1026 (x_mL hids1019 (x_mL hids1012 (x_mL hids1005 hm_this)))))))))))))))))))))))))))))))))) lR_0 rfl) rfl rfl hl.1 rfl (lv_room (Nat.le_of_ble_eq_true rfl)) dX12_init_316 ⟨Nat.le_of_ble_eq_true rfl, Nat.le_of_ble_eq_true rfl⟩) hW hA (fun σ1249 H locs h hW => ?_)
  try dsimp only at h
  refine lv_aload_n hx hb dX12_init_319 rfl (lv_at hl 0 rfl) ?_
  refine lv_bipush (v := 32) hx hb dX12_init_320 (by decide) ?_
  refine lv_ldc2 hx hb hown (hts _ hwX12_init_46) dX12_init_322 ?_
  refine x_callv (va_runV (As := [.int (32 : Int32), .long (8079522742130536052 : Int64)]) (rest := []) ⟨hx, hb, hml, hown, hts⟩ (J_X12_spell l h71242 h) (cwV 2 hts gX12_init_X12_spell rfl rfl rfl hdV_X12_spell ⟨Nat.le_of_ble_eq_true rfl, Nat.le_of_ble_eq_true rfl⟩) (x_preV (ci := 12) hK hZ hA hW (x_mL hids1238 (x_mL hids1231 (x_mL hids1224 (x_mL hids1217 (x_mL hids1210 (x_mL hids1203 (x_mL hids1196 (x_mL hids1189 (x_mL hids1182 (x_mL hids1175 (x_mL hids1168 (x_mL hids1161 (x_mL hids1153 (x_mL hids1146 (x_mL hids1139 (x_mL hids1131 (x_mL hids1124 (x_mL hids1117 (x_mL hids1110 (x_mL hids1103 (x_mL hids1096 (x_mL hids1089 (x_mL hids1082 (x_mL hids1075 (x_mL hids1068 (x_mL hids1061 (x_mL hids1054 (x_mL hids1047 (x_mL hids1040 (x_mL hids1033 (x_mL hids1026 (x_mL hids1019 (x_mL hids1012 (x_mL hids1005 hm_this)))))))))))))))))))))))))))))))))) lR_0 rfl) rfl rfl hl.1 rfl (lv_room (Nat.le_of_ble_eq_true rfl)) dX12_init_325 ⟨Nat.le_of_ble_eq_true rfl, Nat.le_of_ble_eq_true rfl⟩) hW hA (fun σ1251 H locs h hW => ?_)
  try dsimp only at h
  refine lv_aload_n hx hb dX12_init_328 rfl (lv_at hl 0 rfl) ?_
  refine lv_bipush (v := 40) hx hb dX12_init_329 (by decide) ?_
  refine lv_ldc2 hx hb hown (hts _ hwX12_init_47) dX12_init_331 ?_
  refine x_callv (va_runV (As := [.int (40 : Int32), .long (2338328605938952992 : Int64)]) (rest := []) ⟨hx, hb, hml, hown, hts⟩ (J_X12_spell l h71242 h) (cwV 2 hts gX12_init_X12_spell rfl rfl rfl hdV_X12_spell ⟨Nat.le_of_ble_eq_true rfl, Nat.le_of_ble_eq_true rfl⟩) (x_preV (ci := 12) hK hZ hA hW (x_mL hids1238 (x_mL hids1231 (x_mL hids1224 (x_mL hids1217 (x_mL hids1210 (x_mL hids1203 (x_mL hids1196 (x_mL hids1189 (x_mL hids1182 (x_mL hids1175 (x_mL hids1168 (x_mL hids1161 (x_mL hids1153 (x_mL hids1146 (x_mL hids1139 (x_mL hids1131 (x_mL hids1124 (x_mL hids1117 (x_mL hids1110 (x_mL hids1103 (x_mL hids1096 (x_mL hids1089 (x_mL hids1082 (x_mL hids1075 (x_mL hids1068 (x_mL hids1061 (x_mL hids1054 (x_mL hids1047 (x_mL hids1040 (x_mL hids1033 (x_mL hids1026 (x_mL hids1019 (x_mL hids1012 (x_mL hids1005 hm_this)))))))))))))))))))))))))))))))))) lR_0 rfl) rfl rfl hl.1 rfl (lv_room (Nat.le_of_ble_eq_true rfl)) dX12_init_334 ⟨Nat.le_of_ble_eq_true rfl, Nat.le_of_ble_eq_true rfl⟩) hW hA (fun σ1253 H locs h hW => ?_)
  try dsimp only at h
  refine lv_aload_n hx hb dX12_init_337 rfl (lv_at hl 0 rfl) ?_
  refine lv_bipush (v := 48) hx hb dX12_init_338 (by decide) ?_
  refine lv_ldc2 hx hb hown (hts _ hwX12_init_48) dX12_init_340 ?_
  refine x_callv (va_runV (As := [.int (48 : Int32), .long (3684009504353034272 : Int64)]) (rest := []) ⟨hx, hb, hml, hown, hts⟩ (J_X12_spell l h71242 h) (cwV 2 hts gX12_init_X12_spell rfl rfl rfl hdV_X12_spell ⟨Nat.le_of_ble_eq_true rfl, Nat.le_of_ble_eq_true rfl⟩) (x_preV (ci := 12) hK hZ hA hW (x_mL hids1238 (x_mL hids1231 (x_mL hids1224 (x_mL hids1217 (x_mL hids1210 (x_mL hids1203 (x_mL hids1196 (x_mL hids1189 (x_mL hids1182 (x_mL hids1175 (x_mL hids1168 (x_mL hids1161 (x_mL hids1153 (x_mL hids1146 (x_mL hids1139 (x_mL hids1131 (x_mL hids1124 (x_mL hids1117 (x_mL hids1110 (x_mL hids1103 (x_mL hids1096 (x_mL hids1089 (x_mL hids1082 (x_mL hids1075 (x_mL hids1068 (x_mL hids1061 (x_mL hids1054 (x_mL hids1047 (x_mL hids1040 (x_mL hids1033 (x_mL hids1026 (x_mL hids1019 (x_mL hids1012 (x_mL hids1005 hm_this)))))))))))))))))))))))))))))))))) lR_0 rfl) rfl rfl hl.1 rfl (lv_room (Nat.le_of_ble_eq_true rfl)) dX12_init_343 ⟨Nat.le_of_ble_eq_true rfl, Nat.le_of_ble_eq_true rfl⟩) hW hA (fun σ1255 H locs h hW => ?_)
  try dsimp only at h
  refine lv_aload_n hx hb dX12_init_346 rfl (lv_at hl 0 rfl) ?_
  obtain ⟨hg1256, h⟩ := h
  refine xgX12_2r hx hb hts hown hK hW 0 hcX12_init_X12 (x_mL hids1238 (x_mL hids1231 (x_mL hids1224 (x_mL hids1217 (x_mL hids1210 (x_mL hids1203 (x_mL hids1196 (x_mL hids1189 (x_mL hids1182 (x_mL hids1175 (x_mL hids1168 (x_mL hids1161 (x_mL hids1153 (x_mL hids1146 (x_mL hids1139 (x_mL hids1131 (x_mL hids1124 (x_mL hids1117 (x_mL hids1110 (x_mL hids1103 (x_mL hids1096 (x_mL hids1089 (x_mL hids1082 (x_mL hids1075 (x_mL hids1068 (x_mL hids1061 (x_mL hids1054 (x_mL hids1047 (x_mL hids1040 (x_mL hids1033 (x_mL hids1026 (x_mL hids1019 (x_mL hids1012 (x_mL hids1005 hm_this)))))))))))))))))))))))))))))))))) lR_0 (hts _ hwX12_init_5) (by exact rfl) dX12_init_347 ?_
  refine lv_iconst (v := 0) hx hb dX12_init_350 (by decide) ?_
  refine lv_bipush (v := 56) hx hb dX12_init_351 (by decide) ?_
  obtain ⟨hi1257, h⟩ := h
  refine x_iast hx hb hK hW 2 (x_mL hids1238 (x_mL hids1231 (x_mL hids1224 (x_mL hids1217 (x_mL hids1210 (x_mL hids1203 (x_mL hids1196 (x_mL hids1189 (x_mL hids1182 (x_mL hids1175 (x_mL hids1168 (x_mL hids1161 (x_mL hids1153 (x_mL hids1146 (x_mL hids1139 (x_mL hids1131 (x_mL hids1124 (x_mL hids1117 (x_mL hids1110 (x_mL hids1103 (x_mL hids1096 (x_mL hids1089 (x_mL hids1082 (x_mL hids1075 (x_mL hids1068 (x_mL hids1061 (x_mL hids1054 (x_mL hids1047 (x_mL hids1040 (x_mL hids1033 (x_mL hids1026 (x_mL hids1019 (x_mR hids1012))))))))))))))))))))))))))))))))) hq1008a hi1257 dX12_init_353 (fun σ1258 H locs hσ1258 hW => ?_)
  have h := h σ1258 hσ1258
  refine lv_aload_n hx hb dX12_init_354 rfl (lv_at hl 0 rfl) ?_
  refine lv_iconst (v := 1) hx hb dX12_init_355 (by decide) ?_
  refine xpX12_3 hx hb hts hown hK hW 0 hcX12_init_X12 (x_mL hids1238 (x_mL hids1231 (x_mL hids1224 (x_mL hids1217 (x_mL hids1210 (x_mL hids1203 (x_mL hids1196 (x_mL hids1189 (x_mL hids1182 (x_mL hids1175 (x_mL hids1168 (x_mL hids1161 (x_mL hids1153 (x_mL hids1146 (x_mL hids1139 (x_mL hids1131 (x_mL hids1124 (x_mL hids1117 (x_mL hids1110 (x_mL hids1103 (x_mL hids1096 (x_mL hids1089 (x_mL hids1082 (x_mL hids1075 (x_mL hids1068 (x_mL hids1061 (x_mL hids1054 (x_mL hids1047 (x_mL hids1040 (x_mL hids1033 (x_mL hids1026 (x_mL hids1019 (x_mL hids1012 (x_mL hids1005 hm_this)))))))))))))))))))))))))))))))))) lR_0 (hts _ hwX12_init_49) dX12_init_356 (fun σ1259 H locs hσ1259 hW => ?_)
  have h := h σ1259 hσ1259
  refine lv_aload_n hx hb dX12_init_359 rfl (lv_at hl 0 rfl) ?_
  refine lv_bipush (v := 100) hx hb dX12_init_360 (by decide) ?_
  refine xpX12_10 hx hb hts hown hK hW 0 hcX12_init_X12 (x_mL hids1238 (x_mL hids1231 (x_mL hids1224 (x_mL hids1217 (x_mL hids1210 (x_mL hids1203 (x_mL hids1196 (x_mL hids1189 (x_mL hids1182 (x_mL hids1175 (x_mL hids1168 (x_mL hids1161 (x_mL hids1153 (x_mL hids1146 (x_mL hids1139 (x_mL hids1131 (x_mL hids1124 (x_mL hids1117 (x_mL hids1110 (x_mL hids1103 (x_mL hids1096 (x_mL hids1089 (x_mL hids1082 (x_mL hids1075 (x_mL hids1068 (x_mL hids1061 (x_mL hids1054 (x_mL hids1047 (x_mL hids1040 (x_mL hids1033 (x_mL hids1026 (x_mL hids1019 (x_mL hids1012 (x_mL hids1005 hm_this)))))))))))))))))))))))))))))))))) lR_0 (hts _ hwX12_init_50) dX12_init_362 (fun σ1260 H locs hσ1260 hW => ?_)
  have h := h σ1260 hσ1260
  refine lv_aload_n hx hb dX12_init_365 rfl (lv_at hl 0 rfl) ?_
  refine lv_sipush (v := 1000) hx hb dX12_init_366 (by decide) ?_
  refine xpX12_11 hx hb hts hown hK hW 0 hcX12_init_X12 (x_mL hids1238 (x_mL hids1231 (x_mL hids1224 (x_mL hids1217 (x_mL hids1210 (x_mL hids1203 (x_mL hids1196 (x_mL hids1189 (x_mL hids1182 (x_mL hids1175 (x_mL hids1168 (x_mL hids1161 (x_mL hids1153 (x_mL hids1146 (x_mL hids1139 (x_mL hids1131 (x_mL hids1124 (x_mL hids1117 (x_mL hids1110 (x_mL hids1103 (x_mL hids1096 (x_mL hids1089 (x_mL hids1082 (x_mL hids1075 (x_mL hids1068 (x_mL hids1061 (x_mL hids1054 (x_mL hids1047 (x_mL hids1040 (x_mL hids1033 (x_mL hids1026 (x_mL hids1019 (x_mL hids1012 (x_mL hids1005 hm_this)))))))))))))))))))))))))))))))))) lR_0 (hts _ hwX12_init_51) dX12_init_369 (fun σ1261 H locs hσ1261 hW => ?_)
  have h := h σ1261 hσ1261
  refine W.widen (k := 34) (n := 1515) (Nat.le_of_ble_eq_true rfl) (Nat.le_of_ble_eq_true rfl) ?_
  exact kr _ _ _ _ _ _ _ hW (fun c hc => (hAd1237 c (x_ne (x_mL hids1231 (x_mL hids1224 (x_mL hids1217 (x_mL hids1210 (x_mL hids1203 (x_mL hids1196 (x_mL hids1189 (x_mL hids1182 (x_mL hids1175 (x_mL hids1168 (x_mL hids1161 (x_mL hids1153 (x_mL hids1146 (x_mL hids1139 (x_mL hids1131 (x_mL hids1124 (x_mL hids1117 (x_mL hids1110 (x_mL hids1103 (x_mL hids1096 (x_mL hids1089 (x_mL hids1082 (x_mL hids1075 (x_mL hids1068 (x_mL hids1061 (x_mL hids1054 (x_mL hids1047 (x_mL hids1040 (x_mL hids1033 (x_mL hids1026 (x_mL hids1019 (x_mL hids1012 (x_mL hids1005 hc))))))))))))))))))))))))))))))))) hq1234d)).trans ((fun c hc => (hAd1230 c (x_ne (x_mL hids1224 (x_mL hids1217 (x_mL hids1210 (x_mL hids1203 (x_mL hids1196 (x_mL hids1189 (x_mL hids1182 (x_mL hids1175 (x_mL hids1168 (x_mL hids1161 (x_mL hids1153 (x_mL hids1146 (x_mL hids1139 (x_mL hids1131 (x_mL hids1124 (x_mL hids1117 (x_mL hids1110 (x_mL hids1103 (x_mL hids1096 (x_mL hids1089 (x_mL hids1082 (x_mL hids1075 (x_mL hids1068 (x_mL hids1061 (x_mL hids1054 (x_mL hids1047 (x_mL hids1040 (x_mL hids1033 (x_mL hids1026 (x_mL hids1019 (x_mL hids1012 (x_mL hids1005 hc)))))))))))))))))))))))))))))))) hq1227d)).trans ((fun c hc => (hAd1223 c (x_ne (x_mL hids1217 (x_mL hids1210 (x_mL hids1203 (x_mL hids1196 (x_mL hids1189 (x_mL hids1182 (x_mL hids1175 (x_mL hids1168 (x_mL hids1161 (x_mL hids1153 (x_mL hids1146 (x_mL hids1139 (x_mL hids1131 (x_mL hids1124 (x_mL hids1117 (x_mL hids1110 (x_mL hids1103 (x_mL hids1096 (x_mL hids1089 (x_mL hids1082 (x_mL hids1075 (x_mL hids1068 (x_mL hids1061 (x_mL hids1054 (x_mL hids1047 (x_mL hids1040 (x_mL hids1033 (x_mL hids1026 (x_mL hids1019 (x_mL hids1012 (x_mL hids1005 hc))))))))))))))))))))))))))))))) hq1220d)).trans ((fun c hc => (hAd1216 c (x_ne (x_mL hids1210 (x_mL hids1203 (x_mL hids1196 (x_mL hids1189 (x_mL hids1182 (x_mL hids1175 (x_mL hids1168 (x_mL hids1161 (x_mL hids1153 (x_mL hids1146 (x_mL hids1139 (x_mL hids1131 (x_mL hids1124 (x_mL hids1117 (x_mL hids1110 (x_mL hids1103 (x_mL hids1096 (x_mL hids1089 (x_mL hids1082 (x_mL hids1075 (x_mL hids1068 (x_mL hids1061 (x_mL hids1054 (x_mL hids1047 (x_mL hids1040 (x_mL hids1033 (x_mL hids1026 (x_mL hids1019 (x_mL hids1012 (x_mL hids1005 hc)))))))))))))))))))))))))))))) hq1213d)).trans ((fun c hc => (hAd1209 c (x_ne (x_mL hids1203 (x_mL hids1196 (x_mL hids1189 (x_mL hids1182 (x_mL hids1175 (x_mL hids1168 (x_mL hids1161 (x_mL hids1153 (x_mL hids1146 (x_mL hids1139 (x_mL hids1131 (x_mL hids1124 (x_mL hids1117 (x_mL hids1110 (x_mL hids1103 (x_mL hids1096 (x_mL hids1089 (x_mL hids1082 (x_mL hids1075 (x_mL hids1068 (x_mL hids1061 (x_mL hids1054 (x_mL hids1047 (x_mL hids1040 (x_mL hids1033 (x_mL hids1026 (x_mL hids1019 (x_mL hids1012 (x_mL hids1005 hc))))))))))))))))))))))))))))) hq1206d)).trans ((fun c hc => (hAd1202 c (x_ne (x_mL hids1196 (x_mL hids1189 (x_mL hids1182 (x_mL hids1175 (x_mL hids1168 (x_mL hids1161 (x_mL hids1153 (x_mL hids1146 (x_mL hids1139 (x_mL hids1131 (x_mL hids1124 (x_mL hids1117 (x_mL hids1110 (x_mL hids1103 (x_mL hids1096 (x_mL hids1089 (x_mL hids1082 (x_mL hids1075 (x_mL hids1068 (x_mL hids1061 (x_mL hids1054 (x_mL hids1047 (x_mL hids1040 (x_mL hids1033 (x_mL hids1026 (x_mL hids1019 (x_mL hids1012 (x_mL hids1005 hc)))))))))))))))))))))))))))) hq1199d)).trans ((fun c hc => (hAd1195 c (x_ne (x_mL hids1189 (x_mL hids1182 (x_mL hids1175 (x_mL hids1168 (x_mL hids1161 (x_mL hids1153 (x_mL hids1146 (x_mL hids1139 (x_mL hids1131 (x_mL hids1124 (x_mL hids1117 (x_mL hids1110 (x_mL hids1103 (x_mL hids1096 (x_mL hids1089 (x_mL hids1082 (x_mL hids1075 (x_mL hids1068 (x_mL hids1061 (x_mL hids1054 (x_mL hids1047 (x_mL hids1040 (x_mL hids1033 (x_mL hids1026 (x_mL hids1019 (x_mL hids1012 (x_mL hids1005 hc))))))))))))))))))))))))))) hq1192d)).trans ((fun c hc => (hAd1188 c (x_ne (x_mL hids1182 (x_mL hids1175 (x_mL hids1168 (x_mL hids1161 (x_mL hids1153 (x_mL hids1146 (x_mL hids1139 (x_mL hids1131 (x_mL hids1124 (x_mL hids1117 (x_mL hids1110 (x_mL hids1103 (x_mL hids1096 (x_mL hids1089 (x_mL hids1082 (x_mL hids1075 (x_mL hids1068 (x_mL hids1061 (x_mL hids1054 (x_mL hids1047 (x_mL hids1040 (x_mL hids1033 (x_mL hids1026 (x_mL hids1019 (x_mL hids1012 (x_mL hids1005 hc)))))))))))))))))))))))))) hq1185d)).trans ((fun c hc => (hAd1181 c (x_ne (x_mL hids1175 (x_mL hids1168 (x_mL hids1161 (x_mL hids1153 (x_mL hids1146 (x_mL hids1139 (x_mL hids1131 (x_mL hids1124 (x_mL hids1117 (x_mL hids1110 (x_mL hids1103 (x_mL hids1096 (x_mL hids1089 (x_mL hids1082 (x_mL hids1075 (x_mL hids1068 (x_mL hids1061 (x_mL hids1054 (x_mL hids1047 (x_mL hids1040 (x_mL hids1033 (x_mL hids1026 (x_mL hids1019 (x_mL hids1012 (x_mL hids1005 hc))))))))))))))))))))))))) hq1178d)).trans ((fun c hc => (hAd1174 c (x_ne (x_mL hids1168 (x_mL hids1161 (x_mL hids1153 (x_mL hids1146 (x_mL hids1139 (x_mL hids1131 (x_mL hids1124 (x_mL hids1117 (x_mL hids1110 (x_mL hids1103 (x_mL hids1096 (x_mL hids1089 (x_mL hids1082 (x_mL hids1075 (x_mL hids1068 (x_mL hids1061 (x_mL hids1054 (x_mL hids1047 (x_mL hids1040 (x_mL hids1033 (x_mL hids1026 (x_mL hids1019 (x_mL hids1012 (x_mL hids1005 hc)))))))))))))))))))))))) hq1171d)).trans ((fun c hc => (hAd1167 c (x_ne (x_mL hids1161 (x_mL hids1153 (x_mL hids1146 (x_mL hids1139 (x_mL hids1131 (x_mL hids1124 (x_mL hids1117 (x_mL hids1110 (x_mL hids1103 (x_mL hids1096 (x_mL hids1089 (x_mL hids1082 (x_mL hids1075 (x_mL hids1068 (x_mL hids1061 (x_mL hids1054 (x_mL hids1047 (x_mL hids1040 (x_mL hids1033 (x_mL hids1026 (x_mL hids1019 (x_mL hids1012 (x_mL hids1005 hc))))))))))))))))))))))) hq1164d)).trans ((fun c hc => (hAd1160 c (x_ne (x_mL hids1153 (x_mL hids1146 (x_mL hids1139 (x_mL hids1131 (x_mL hids1124 (x_mL hids1117 (x_mL hids1110 (x_mL hids1103 (x_mL hids1096 (x_mL hids1089 (x_mL hids1082 (x_mL hids1075 (x_mL hids1068 (x_mL hids1061 (x_mL hids1054 (x_mL hids1047 (x_mL hids1040 (x_mL hids1033 (x_mL hids1026 (x_mL hids1019 (x_mL hids1012 (x_mL hids1005 hc)))))))))))))))))))))) hq1157d)).trans ((fun c hc => (hAd1152 c (x_ne (x_mL hids1146 (x_mL hids1139 (x_mL hids1131 (x_mL hids1124 (x_mL hids1117 (x_mL hids1110 (x_mL hids1103 (x_mL hids1096 (x_mL hids1089 (x_mL hids1082 (x_mL hids1075 (x_mL hids1068 (x_mL hids1061 (x_mL hids1054 (x_mL hids1047 (x_mL hids1040 (x_mL hids1033 (x_mL hids1026 (x_mL hids1019 (x_mL hids1012 (x_mL hids1005 hc))))))))))))))))))))) hq1149d)).trans ((fun c hc => (hAd1145 c (x_ne (x_mL hids1139 (x_mL hids1131 (x_mL hids1124 (x_mL hids1117 (x_mL hids1110 (x_mL hids1103 (x_mL hids1096 (x_mL hids1089 (x_mL hids1082 (x_mL hids1075 (x_mL hids1068 (x_mL hids1061 (x_mL hids1054 (x_mL hids1047 (x_mL hids1040 (x_mL hids1033 (x_mL hids1026 (x_mL hids1019 (x_mL hids1012 (x_mL hids1005 hc)))))))))))))))))))) hq1142d)).trans ((fun c hc => (hAd1138 c (x_ne (x_mL hids1131 (x_mL hids1124 (x_mL hids1117 (x_mL hids1110 (x_mL hids1103 (x_mL hids1096 (x_mL hids1089 (x_mL hids1082 (x_mL hids1075 (x_mL hids1068 (x_mL hids1061 (x_mL hids1054 (x_mL hids1047 (x_mL hids1040 (x_mL hids1033 (x_mL hids1026 (x_mL hids1019 (x_mL hids1012 (x_mL hids1005 hc))))))))))))))))))) hq1135d)).trans ((fun c hc => (hAd1130 c (x_ne (x_mL hids1124 (x_mL hids1117 (x_mL hids1110 (x_mL hids1103 (x_mL hids1096 (x_mL hids1089 (x_mL hids1082 (x_mL hids1075 (x_mL hids1068 (x_mL hids1061 (x_mL hids1054 (x_mL hids1047 (x_mL hids1040 (x_mL hids1033 (x_mL hids1026 (x_mL hids1019 (x_mL hids1012 (x_mL hids1005 hc)))))))))))))))))) hq1127d)).trans ((fun c hc => (hAd1123 c (x_ne (x_mL hids1117 (x_mL hids1110 (x_mL hids1103 (x_mL hids1096 (x_mL hids1089 (x_mL hids1082 (x_mL hids1075 (x_mL hids1068 (x_mL hids1061 (x_mL hids1054 (x_mL hids1047 (x_mL hids1040 (x_mL hids1033 (x_mL hids1026 (x_mL hids1019 (x_mL hids1012 (x_mL hids1005 hc))))))))))))))))) hq1120d)).trans ((fun c hc => (hAd1116 c (x_ne (x_mL hids1110 (x_mL hids1103 (x_mL hids1096 (x_mL hids1089 (x_mL hids1082 (x_mL hids1075 (x_mL hids1068 (x_mL hids1061 (x_mL hids1054 (x_mL hids1047 (x_mL hids1040 (x_mL hids1033 (x_mL hids1026 (x_mL hids1019 (x_mL hids1012 (x_mL hids1005 hc)))))))))))))))) hq1113d)).trans ((fun c hc => (hAd1109 c (x_ne (x_mL hids1103 (x_mL hids1096 (x_mL hids1089 (x_mL hids1082 (x_mL hids1075 (x_mL hids1068 (x_mL hids1061 (x_mL hids1054 (x_mL hids1047 (x_mL hids1040 (x_mL hids1033 (x_mL hids1026 (x_mL hids1019 (x_mL hids1012 (x_mL hids1005 hc))))))))))))))) hq1106d)).trans ((fun c hc => (hAd1102 c (x_ne (x_mL hids1096 (x_mL hids1089 (x_mL hids1082 (x_mL hids1075 (x_mL hids1068 (x_mL hids1061 (x_mL hids1054 (x_mL hids1047 (x_mL hids1040 (x_mL hids1033 (x_mL hids1026 (x_mL hids1019 (x_mL hids1012 (x_mL hids1005 hc)))))))))))))) hq1099d)).trans ((fun c hc => (hAd1095 c (x_ne (x_mL hids1089 (x_mL hids1082 (x_mL hids1075 (x_mL hids1068 (x_mL hids1061 (x_mL hids1054 (x_mL hids1047 (x_mL hids1040 (x_mL hids1033 (x_mL hids1026 (x_mL hids1019 (x_mL hids1012 (x_mL hids1005 hc))))))))))))) hq1092d)).trans ((fun c hc => (hAd1088 c (x_ne (x_mL hids1082 (x_mL hids1075 (x_mL hids1068 (x_mL hids1061 (x_mL hids1054 (x_mL hids1047 (x_mL hids1040 (x_mL hids1033 (x_mL hids1026 (x_mL hids1019 (x_mL hids1012 (x_mL hids1005 hc)))))))))))) hq1085d)).trans ((fun c hc => (hAd1081 c (x_ne (x_mL hids1075 (x_mL hids1068 (x_mL hids1061 (x_mL hids1054 (x_mL hids1047 (x_mL hids1040 (x_mL hids1033 (x_mL hids1026 (x_mL hids1019 (x_mL hids1012 (x_mL hids1005 hc))))))))))) hq1078d)).trans ((fun c hc => (hAd1074 c (x_ne (x_mL hids1068 (x_mL hids1061 (x_mL hids1054 (x_mL hids1047 (x_mL hids1040 (x_mL hids1033 (x_mL hids1026 (x_mL hids1019 (x_mL hids1012 (x_mL hids1005 hc)))))))))) hq1071d)).trans ((fun c hc => (hAd1067 c (x_ne (x_mL hids1061 (x_mL hids1054 (x_mL hids1047 (x_mL hids1040 (x_mL hids1033 (x_mL hids1026 (x_mL hids1019 (x_mL hids1012 (x_mL hids1005 hc))))))))) hq1064d)).trans ((fun c hc => (hAd1060 c (x_ne (x_mL hids1054 (x_mL hids1047 (x_mL hids1040 (x_mL hids1033 (x_mL hids1026 (x_mL hids1019 (x_mL hids1012 (x_mL hids1005 hc)))))))) hq1057d)).trans ((fun c hc => (hAd1053 c (x_ne (x_mL hids1047 (x_mL hids1040 (x_mL hids1033 (x_mL hids1026 (x_mL hids1019 (x_mL hids1012 (x_mL hids1005 hc))))))) hq1050d)).trans ((fun c hc => (hAd1046 c (x_ne (x_mL hids1040 (x_mL hids1033 (x_mL hids1026 (x_mL hids1019 (x_mL hids1012 (x_mL hids1005 hc)))))) hq1043d)).trans ((fun c hc => (hAd1039 c (x_ne (x_mL hids1033 (x_mL hids1026 (x_mL hids1019 (x_mL hids1012 (x_mL hids1005 hc))))) hq1036d)).trans ((fun c hc => (hAd1032 c (x_ne (x_mL hids1026 (x_mL hids1019 (x_mL hids1012 (x_mL hids1005 hc)))) hq1029d)).trans ((fun c hc => (hAd1025 c (x_ne (x_mL hids1019 (x_mL hids1012 (x_mL hids1005 hc))) hq1022d)).trans ((fun c hc => (hAd1018 c (x_ne (x_mL hids1012 (x_mL hids1005 hc)) hq1015d)).trans ((fun c hc => (hAd1011 c (x_ne (x_mL hids1005 hc) hq1008d)).trans ((fun c hc => (hAd1004 c (x_ne hc hq1001d)).trans ((fun _ _ => rfl) c hc)) c hc)) c hc)) c hc)) c hc)) c hc)) c hc)) c hc)) c hc)) c hc)) c hc)) c hc)) c hc)) c hc)) c hc)) c hc)) c hc)) c hc)) c hc)) c hc)) c hc)) c hc)) c hc)) c hc)) c hc)) c hc)) c hc)) c hc)) c hc)) c hc)) c hc)) c hc)) c hc)) c hc)) (fun c hc => (x_mL hids1238 (x_mL hids1231 (x_mL hids1224 (x_mL hids1217 (x_mL hids1210 (x_mL hids1203 (x_mL hids1196 (x_mL hids1189 (x_mL hids1182 (x_mL hids1175 (x_mL hids1168 (x_mL hids1161 (x_mL hids1153 (x_mL hids1146 (x_mL hids1139 (x_mL hids1131 (x_mL hids1124 (x_mL hids1117 (x_mL hids1110 (x_mL hids1103 (x_mL hids1096 (x_mL hids1089 (x_mL hids1082 (x_mL hids1075 (x_mL hids1068 (x_mL hids1061 (x_mL hids1054 (x_mL hids1047 (x_mL hids1040 (x_mL hids1033 (x_mL hids1026 (x_mL hids1019 (x_mL hids1012 (x_mL hids1005 hc))))))))))))))))))))))))))))))))))) h dX12_init_372
theorem hwX12_pullsAt_0 : (.fieldLink RX12 166 "FortyBeltsModel" "belts" "I" : Cond) ∈ wsX12_pullsAt := (List.mem_cons_of_mem _ (List.mem_append_left _ (List.mem_append_left _ (List.mem_of_getElem? (i := 0) rfl))))
theorem hwX12_pullsAt_1 : (.fieldLink RX12 53 "FortyBeltsModel" "driver" "[I" : Cond) ∈ wsX12_pullsAt := (List.mem_cons_of_mem _ (List.mem_append_left _ (List.mem_append_left _ (List.mem_of_getElem? (i := 1) rfl))))
theorem hwX12_pullsAt_2 : (.fieldLink RX12 56 "FortyBeltsModel" "driven" "[I" : Cond) ∈ wsX12_pullsAt := (List.mem_cons_of_mem _ (List.mem_append_left _ (List.mem_append_left _ (List.mem_of_getElem? (i := 2) rfl))))
theorem hcX12_pullsAt_X12 : ∀ w ∈ wsX120, w ∈ wsX12_pullsAt := fun _ h => (List.mem_cons_of_mem _ (List.mem_append_right _ h))
set_option maxHeartbeats 4000000 in
set_option maxRecDepth 100000 in
theorem J_X12_pullsAt {D : va_G} {KA : Nat → ClassId} {zs : ZS} {ad : Nat → Nat} {ids : List Nat} {sz : Nat} (l : Launch) (hI : ∀ c, c < 35 → c ∈ ids) {a1 : Int32}  {σ : St} {post : Int32 → St → Prop} (h : wX12_pullsAt  a1 σ post) : Met l yX12_pullsAt wsX12_pullsAt rmX12_pullsAt (va_Pc [.ref (ad 0), .int a1] (xIn D KA zs layR stR ad ids sz σ)) (va_Qi post (xOut D KA layR stR ad ids) (xA ad ids sz)) 0 0 (xA ad ids sz) := by
  refine Met.ofW (cc := cX12_pullsAt) (maxL := 4) (ret := (some .int)) (by decide) rfl ?_
  intro p e s m args below meth c s₁ B hml hv
  obtain ⟨hav, hsz, hK, hZ, hP, hD⟩ := hv
  have hx := B.exec
  have hb := B.bytes
  have hr := B.returns
  have hts := atoms_spec (ws := wsX12_pullsAt) B.pre
  have hown : s.vm.findClass RX12 = some m.cls := findClass_of_methodNamed B.named
  have hlocks := B.notSynchronized
  subst hsz
  have hA : ∀ q : Nat, s.heap.size ≤ q → xA ad ids s.heap.size q := fun q h => Or.inr h
  have hW : xW D KA layR stR ad ids (xA ad ids s.heap.size) s.heap σ s.heap [] := ⟨hP, xA_D (D := D) hD, va_S.rf⟩
  have kr : ∀ (v : Int32) (σ : St) (H : Heap) (locs : List Loc) (ls : Array Slot) (pc : Nat), xW D KA layR stR ad ids (xA ad ids s.heap.size) s.heap σ H locs → post v σ → decode cX12_pullsAt pc = .ok (.ireturn, 1) → W p l e rmX12_pullsAt s m args below meth c H locs 0 0 (MQ below (va_Qi post (xOut D KA layR stR ad ids) (xA ad ids s.heap.size)) args s 0 0 (xA ad ids s.heap.size)) (F0 m pc ls [.int v]) := fun v σ H locs ls pc hW h hd => x_iret hx hb hr hlocks hW h hd
  have hl := lv_entry ([.ref (ad 0), .int a1]) (n := 4) (Nat.le_of_ble_eq_true rfl)
  rw [show entryFrame m args 4 = entryFrame m ([.ref (ad 0), .int a1] : List Value).toArray 4 from by rw [hav]]
  rw [lg_entry_eq]
  generalize (lg_sl ([.ref (ad 0), .int a1]) ++ List.replicate (4 - (lg_sl ([.ref (ad 0), .int a1])).length) Slot.unset).toArray = ls at hl ⊢
  have hl : lv_has ls 4 [(0, .ref (ad 0)), (1, .int a1)] := hl
  show W p l e rmX12_pullsAt s m args below meth c s.heap [] 0 0 _ _
  generalize MQ below (va_Qi post (xOut D KA layR stR ad ids) (xA ad ids s.heap.size)) args s 0 0 (xA ad ids s.heap.size) = Q at kr ⊢
  have blk42 : ∀ (x1 : Int32) (k4 : Int32 → Int32 → St → Prop) (hk4 : ∀ (x2 : Int32) (x3 : Int32) (σ : St) (H : Heap) (locs : List Loc) (ls : Array Slot), xW D KA layR stR ad ids (xA ad ids s.heap.size) s.heap σ H locs → lv_has ls 4 [(0, .ref (ad 0)), (1, .int x1), (2, .int x2), (3, .int x3)] → k4 x2 x3 σ → W p l e rmX12_pullsAt s m args below meth c H locs 0 0 Q (F0 m 4 ls [])) (x3 : Int32) (s0 : Int32) (s1 : Int32) (σ : St) (H : Heap) (locs : List Loc) (ls : Array Slot), xW D KA layR stR ad ids (xA ad ids s.heap.size) s.heap σ H locs → lv_has ls 4 [(0, .ref (ad 0)), (1, .int x1), (3, .int x3)] → wX12_pullsAt_42 k4 post x1 x3 s0 s1 σ → W p l e rmX12_pullsAt s m args below meth c H locs 0 0 Q (F0 m 42 ls [.int s1, .int s0]) := by
    intro x1 k4 hk4 x3 s0 s1 σ H locs ls hW hl h
    unfold wX12_pullsAt_42 at h
    refine lv_iadd hx hb dX12_pullsAt_42 ?_
    refine lv_topi (fun v1 hv1 => ?_)
    have h := h v1 hv1
    refine lv_istore_n (lv' := [(2, .int v1), (0, .ref (ad 0)), (1, .int x1), (3, .int x3)]) hx hb dX12_pullsAt_43 rfl hl (by decide) rfl (fun ls hl => ?_)
    obtain ⟨v2, hv2⟩ : ∃ y : Int32, y = x3 + (1 : Int32) := ⟨_, rfl⟩
    have h := h v2 hv2
    refine lv_iinc (v := v2) (lv' := [(3, .int v2), (2, .int v1), (0, .ref (ad 0)), (1, .int x1)]) hx hb dX12_pullsAt_44 hl (k := 3) rfl (by rw [hv2]; rfl) (by decide) rfl (fun ls hl => ?_)
    refine lv_goto (tgt := 4) hx hb dX12_pullsAt_47 (by decide) ?_
    exact hk4 v1 v2 _ _ _ _ hW (lv_sub hl [2, 3, 1, 0] rfl) h
  have blk33 : ∀ (x1 : Int32) (k4 : Int32 → Int32 → St → Prop) (hk4 : ∀ (x2 : Int32) (x3 : Int32) (σ : St) (H : Heap) (locs : List Loc) (ls : Array Slot), xW D KA layR stR ad ids (xA ad ids s.heap.size) s.heap σ H locs → lv_has ls 4 [(0, .ref (ad 0)), (1, .int x1), (2, .int x2), (3, .int x3)] → k4 x2 x3 σ → W p l e rmX12_pullsAt s m args below meth c H locs 0 0 Q (F0 m 4 ls [])) (x3 : Int32) (s0 : Int32) (σ : St) (H : Heap) (locs : List Loc) (ls : Array Slot), xW D KA layR stR ad ids (xA ad ids s.heap.size) s.heap σ H locs → lv_has ls 4 [(0, .ref (ad 0)), (1, .int x1), (3, .int x3)] → wX12_pullsAt_33 k4 post x1 x3 s0 σ → W p l e rmX12_pullsAt s m args below meth c H locs 0 0 Q (F0 m 33 ls [.int s0]) := by
    intro x1 k4 hk4 x3 s0 σ H locs ls hW hl h
    unfold wX12_pullsAt_33 at h
    refine lv_aload_n hx hb dX12_pullsAt_33 rfl (lv_at hl 0 rfl) ?_
    refine lv_iload_n hx hb dX12_pullsAt_34 rfl (lv_at hl 2 rfl) ?_
    refine x_calli (va_runV (As := [.int x3]) (rest := [.int s0]) ⟨hx, hb, hml, hown, hts⟩ (J_X12_pullOf l hI h) (cwV 1 hts gX12_pullsAt_X12_pullOf rfl rfl rfl hdV_X12_pullOf ⟨Nat.le_of_ble_eq_true rfl, Nat.le_of_ble_eq_true rfl⟩) (x_preV (ci := 12) hK hZ hA hW (hI 0 (by decide)) lR_0 rfl) rfl rfl hl.1 rfl (lv_room (Nat.le_of_ble_eq_true rfl)) dX12_pullsAt_35 ⟨Nat.zero_le _, Nat.zero_le _⟩) hW hA (fun r4 σ3 H locs h hW => ?_)
    try dsimp only at h
    refine lv_goto (tgt := 42) hx hb dX12_pullsAt_38 (by decide) ?_
    exact blk42 x1 k4 hk4 x3 s0 r4 _ _ _ _ hW (lv_sub hl [0, 1, 2] rfl) h
  have blk4 : ∀ (x1 : Int32) (n : Nat) (x2 : Int32) (x3 : Int32) (σ : St) (H : Heap) (locs : List Loc) (ls : Array Slot), xW D KA layR stR ad ids (xA ad ids s.heap.size) s.heap σ H locs → lv_has ls 4 [(0, .ref (ad 0)), (1, .int x1), (2, .int x2), (3, .int x3)] → wX12_pullsAt_4 post x1 n x2 x3 σ → W p l e rmX12_pullsAt s m args below meth c H locs 0 0 Q (F0 m 4 ls []) := by
    intro   x1 n
    induction n with
    | zero => intro x2 x3 σ H locs ls hW hl h; exact (h : False).elim
    | succ n ih =>
      intro x2 x3 σ H locs ls hW hl h
      have hk4 : ∀ (x2 : Int32) (x3 : Int32) (σ : St) (H : Heap) (locs : List Loc) (ls : Array Slot), xW D KA layR stR ad ids (xA ad ids s.heap.size) s.heap σ H locs → lv_has ls 4 [(0, .ref (ad 0)), (1, .int x1), (2, .int x2), (3, .int x3)] → (wX12_pullsAt_4 post x1 n) x2 x3 σ → W p l e rmX12_pullsAt s m args below meth c H locs 0 0 Q (F0 m 4 ls []) := fun x2 x3 σ H locs ls hW hl h => ih x2 x3 σ H locs ls hW hl h
      rw [wX12_pullsAt_4_s] at h
      try dsimp only at h
      generalize wX12_pullsAt_4 post x1 n = k4 at h hk4
      refine lv_iload_n hx hb dX12_pullsAt_4 rfl (lv_at hl 3 rfl) ?_
      refine lv_aload_n hx hb dX12_pullsAt_5 rfl (lv_at hl 0 rfl) ?_
      refine xgX12_28 hx hb hts hown hK hW 0 hcX12_pullsAt_X12 (hI 0 (by decide)) lR_0 (hts _ hwX12_pullsAt_0) dX12_pullsAt_6 ?_
      refine lv_icmp_ge (tgt := 50) hx hb dX12_pullsAt_9 (by decide) (fun c5 => ?_) (fun c5 => ?_)
      · have h := h.1 c5
        refine lv_iload_n hx hb dX12_pullsAt_50 rfl (lv_at hl 2 rfl) ?_
        exact kr _ _ _ _ _ _ hW h dX12_pullsAt_51
      · have h := h.2 c5
        refine lv_iload_n hx hb dX12_pullsAt_12 rfl (lv_at hl 2 rfl) ?_
        refine lv_aload_n hx hb dX12_pullsAt_13 rfl (lv_at hl 0 rfl) ?_
        refine xgX12_22r hx hb hts hown hK hW 0 hcX12_pullsAt_X12 (hI 0 (by decide)) lR_0 (hts _ hwX12_pullsAt_1) (sR_0_22 _) dX12_pullsAt_14 ?_
        refine lv_iload_n hx hb dX12_pullsAt_17 rfl (lv_at hl 3 rfl) ?_
        obtain ⟨hi6, h⟩ := h
        refine x_iald hx hb hK hW 14 (hI 14 (by decide)) lR_14 hi6 dX12_pullsAt_18 ?_
        refine lv_iload_n hx hb dX12_pullsAt_19 rfl (lv_at hl 1 rfl) ?_
        refine lv_icmp_eq (tgt := 33) hx hb dX12_pullsAt_20 (by decide) (fun c7 => ?_) (fun c7 => ?_)
        · have h := h.1 c7
          exact blk33 x1 k4 hk4 x3 x2 _ _ _ _ hW (lv_sub hl [0, 1, 3] rfl) h
        · have h := h.2 c7
          refine lv_aload_n hx hb dX12_pullsAt_23 rfl (lv_at hl 0 rfl) ?_
          refine xgX12_23r hx hb hts hown hK hW 0 hcX12_pullsAt_X12 (hI 0 (by decide)) lR_0 (hts _ hwX12_pullsAt_2) (sR_0_23 _) dX12_pullsAt_24 ?_
          refine lv_iload_n hx hb dX12_pullsAt_27 rfl (lv_at hl 3 rfl) ?_
          refine x_iald hx hb hK hW 15 (hI 15 (by decide)) lR_15 hi6 dX12_pullsAt_28 ?_
          refine lv_iload_n hx hb dX12_pullsAt_29 rfl (lv_at hl 1 rfl) ?_
          refine lv_icmp_ne (tgt := 41) hx hb dX12_pullsAt_30 (by decide) (fun c9 => ?_) (fun c9 => ?_)
          · have h := h.1 c9
            refine lv_iconst (v := 0) hx hb dX12_pullsAt_41 (by decide) ?_
            exact blk42 x1 k4 hk4 x3 x2 (0 : Int32) _ _ _ _ hW (lv_sub hl [0, 1, 3] rfl) h
          · have h := h.2 c9
            exact blk33 x1 k4 hk4 x3 x2 _ _ _ _ hW (lv_sub hl [0, 1, 3] rfl) h
  have main : ∀ (H : Heap) (locs : List Loc) (ls : Array Slot), xW D KA layR stR ad ids (xA ad ids s.heap.size) s.heap σ H locs → lv_has ls 4 [(0, .ref (ad 0)), (1, .int a1)] → W p l e rmX12_pullsAt s m args below meth c H locs 0 0 Q (F0 m 0 ls []) := by
    intro H locs ls hW hl
    unfold wX12_pullsAt at h
    refine lv_iconst (v := 0) hx hb dX12_pullsAt_0 (by decide) ?_
    refine lv_istore_n (lv' := [(2, .int (0 : Int32)), (0, .ref (ad 0)), (1, .int a1)]) hx hb dX12_pullsAt_1 rfl hl (by decide) rfl (fun ls hl => ?_)
    refine lv_iconst (v := 0) hx hb dX12_pullsAt_2 (by decide) ?_
    refine lv_istore_n (lv' := [(3, .int (0 : Int32)), (2, .int (0 : Int32)), (0, .ref (ad 0)), (1, .int a1)]) hx hb dX12_pullsAt_3 rfl hl (by decide) rfl (fun ls hl => ?_)
    obtain ⟨n, h⟩ := h
    exact blk4   a1 n (0 : Int32) (0 : Int32) _ _ _ _ hW (lv_sub hl [2, 3, 1, 0] rfl) h
  exact main _ _ _ hW hl
theorem hwX12_slips_0 : (.fieldLink RX12 65 "FortyBeltsModel" "grip" "[I" : Cond) ∈ wsX12_slips := (List.mem_cons_of_mem _ (List.mem_append_left _ (List.mem_append_left _ (List.mem_of_getElem? (i := 0) rfl))))
theorem hcX12_slips_X12 : ∀ w ∈ wsX120, w ∈ wsX12_slips := fun _ h => (List.mem_cons_of_mem _ (List.mem_append_right _ h))
set_option maxHeartbeats 4000000 in
set_option maxRecDepth 100000 in
theorem J_X12_slips {D : va_G} {KA : Nat → ClassId} {zs : ZS} {ad : Nat → Nat} {ids : List Nat} {sz : Nat} (l : Launch) (hI : ∀ c, c < 35 → c ∈ ids) {a1 : Int32}  {σ : St} {post : Int32 → St → Prop} (h : wX12_slips  a1 σ post) : Met l yX12_slips wsX12_slips rmX12_slips (va_Pc [.ref (ad 0), .int a1] (xIn D KA zs layR stR ad ids sz σ)) (va_Qi post (xOut D KA layR stR ad ids) (xA ad ids sz)) 0 0 (xA ad ids sz) := by
  refine Met.ofW (cc := cX12_slips) (maxL := 2) (ret := (some .boolean)) (by decide) rfl ?_
  intro p e s m args below meth c s₁ B hml hv
  obtain ⟨hav, hsz, hK, hZ, hP, hD⟩ := hv
  have hx := B.exec
  have hb := B.bytes
  have hr := B.returns
  have hts := atoms_spec (ws := wsX12_slips) B.pre
  have hown : s.vm.findClass RX12 = some m.cls := findClass_of_methodNamed B.named
  have hlocks := B.notSynchronized
  subst hsz
  have hA : ∀ q : Nat, s.heap.size ≤ q → xA ad ids s.heap.size q := fun q h => Or.inr h
  have hW : xW D KA layR stR ad ids (xA ad ids s.heap.size) s.heap σ s.heap [] := ⟨hP, xA_D (D := D) hD, va_S.rf⟩
  have kr : ∀ (v : Int32) (σ : St) (H : Heap) (locs : List Loc) (ls : Array Slot) (pc : Nat), xW D KA layR stR ad ids (xA ad ids s.heap.size) s.heap σ H locs → isB v → post v σ → decode cX12_slips pc = .ok (.ireturn, 1) → W p l e rmX12_slips s m args below meth c H locs 0 0 (MQ below (va_Qi post (xOut D KA layR stR ad ids) (xA ad ids s.heap.size)) args s 0 0 (xA ad ids s.heap.size)) (F0 m pc ls [.int v]) := fun v σ H locs ls pc hW hz h hd => x_zret hx hb hr hlocks hW hz h hd
  have hl := lv_entry ([.ref (ad 0), .int a1]) (n := 2) (Nat.le_of_ble_eq_true rfl)
  rw [show entryFrame m args 2 = entryFrame m ([.ref (ad 0), .int a1] : List Value).toArray 2 from by rw [hav]]
  rw [lg_entry_eq]
  generalize (lg_sl ([.ref (ad 0), .int a1]) ++ List.replicate (2 - (lg_sl ([.ref (ad 0), .int a1])).length) Slot.unset).toArray = ls at hl ⊢
  have hl : lv_has ls 2 [(0, .ref (ad 0)), (1, .int a1)] := hl
  show W p l e rmX12_slips s m args below meth c s.heap [] 0 0 _ _
  generalize MQ below (va_Qi post (xOut D KA layR stR ad ids) (xA ad ids s.heap.size)) args s 0 0 (xA ad ids s.heap.size) = Q at kr ⊢
  have blk28 : ∀ (s0 : Int32) (σ : St) (H : Heap) (locs : List Loc) (ls : Array Slot), xW D KA layR stR ad ids (xA ad ids s.heap.size) s.heap σ H locs → lv_has ls 2 [] → wX12_slips_28 post s0 σ → W p l e rmX12_slips s m args below meth c H locs 0 0 Q (F0 m 28 ls [.int s0]) := by
    intro   s0 σ H locs ls hW hl h
    unfold wX12_slips_28 at h
    obtain ⟨hz1, h⟩ := h
    exact kr _ _ _ _ _ _ hW hz1 h dX12_slips_28
  have main : ∀ (H : Heap) (locs : List Loc) (ls : Array Slot), xW D KA layR stR ad ids (xA ad ids s.heap.size) s.heap σ H locs → lv_has ls 2 [(0, .ref (ad 0)), (1, .int a1)] → W p l e rmX12_slips s m args below meth c H locs 0 0 Q (F0 m 0 ls []) := by
    intro H locs ls hW hl
    unfold wX12_slips at h
    refine lv_aload_n hx hb dX12_slips_0 rfl (lv_at hl 0 rfl) ?_
    refine lv_iload_n hx hb dX12_slips_1 rfl (lv_at hl 1 rfl) ?_
    refine x_calli (va_runV (As := [.int a1]) (rest := []) ⟨hx, hb, hml, hown, hts⟩ (J_X12_pullOf l hI h) (cwV 1 hts gX12_slips_X12_pullOf rfl rfl rfl hdV_X12_pullOf ⟨Nat.le_of_ble_eq_true rfl, Nat.le_of_ble_eq_true rfl⟩) (x_preV (ci := 12) hK hZ hA hW (hI 0 (by decide)) lR_0 rfl) rfl rfl hl.1 rfl (lv_room (Nat.le_of_ble_eq_true rfl)) dX12_slips_2 ⟨Nat.zero_le _, Nat.zero_le _⟩) hW hA (fun r1002 σ1001 H locs h hW => ?_)
    try dsimp only at h
    refine lv_aload_n hx hb dX12_slips_5 rfl (lv_at hl 0 rfl) ?_
    refine xgX12_26r hx hb hts hown hK hW 0 hcX12_slips_X12 (hI 0 (by decide)) lR_0 (hts _ hwX12_slips_0) (sR_0_26 _) dX12_slips_6 ?_
    refine lv_iload_n hx hb dX12_slips_9 rfl (lv_at hl 1 rfl) ?_
    obtain ⟨hi1003, h⟩ := h
    refine x_iald hx hb hK hW 18 (hI 18 (by decide)) lR_18 hi1003 dX12_slips_10 ?_
    refine lv_aload_n hx hb dX12_slips_11 rfl (lv_at hl 0 rfl) ?_
    refine lv_iload_n hx hb dX12_slips_12 rfl (lv_at hl 1 rfl) ?_
    refine x_calli (va_runV (As := [.int a1]) (rest := [.int (gI σ1001 18 a1.toNatClampNeg), .int r1002]) ⟨hx, hb, hml, hown, hts⟩ (J_X12_wrapOf l hI h) (cwV 1 hts gX12_slips_X12_wrapOf rfl rfl rfl hdV_X12_wrapOf ⟨Nat.le_of_ble_eq_true rfl, Nat.le_of_ble_eq_true rfl⟩) (x_preV (ci := 12) hK hZ hA hW (hI 0 (by decide)) lR_0 rfl) rfl rfl hl.1 rfl (lv_room (Nat.le_of_ble_eq_true rfl)) dX12_slips_13 ⟨Nat.zero_le _, Nat.zero_le _⟩) hW hA (fun r1005 σ1004 H locs h hW => ?_)
    try dsimp only at h
    refine lv_imul hx hb dX12_slips_16 ?_
    refine lv_bipush (v := 50) hx hb dX12_slips_17 (by decide) ?_
    refine lv_idiv hx hb dX12_slips_19 (by decide) ?_
    refine lv_icmp_le (tgt := 27) hx hb dX12_slips_20 (by decide) (fun c1006 => ?_) (fun c1006 => ?_)
    · have h := h.1 c1006
      refine lv_iconst (v := 0) hx hb dX12_slips_27 (by decide) ?_
      exact blk28   (0 : Int32) _ _ _ _ hW (lv_sub hl [] rfl) h
    · have h := h.2 c1006
      refine lv_iconst (v := 1) hx hb dX12_slips_23 (by decide) ?_
      refine lv_goto (tgt := 28) hx hb dX12_slips_24 (by decide) ?_
      exact blk28   (1 : Int32) _ _ _ _ hW (lv_sub hl [] rfl) h
  exact main _ _ _ hW hl
theorem hwX12_judge_0 : (.fieldLink RX12 163 "FortyBeltsModel" "drumMany" "I" : Cond) ∈ wsX12_judge := (List.mem_cons_of_mem _ (List.mem_append_left _ (List.mem_append_left _ (List.mem_of_getElem? (i := 4) rfl))))
theorem hwX12_judge_1 : (.fieldLink RX12 148 "FortyBeltsModel" "power" "I" : Cond) ∈ wsX12_judge := (List.mem_cons_of_mem _ (List.mem_append_left _ (List.mem_append_left _ (List.mem_of_getElem? (i := 5) rfl))))
theorem hwX12_judge_2 : (.fieldLink RX12 153 "FortyBeltsModel" "shafts" "I" : Cond) ∈ wsX12_judge := (List.mem_cons_of_mem _ (List.mem_append_left _ (List.mem_append_left _ (List.mem_of_getElem? (i := 2) rfl))))
theorem hwX12_judge_3 : (.fieldLink RX12 26 "FortyBeltsModel" "bends" "[I" : Cond) ∈ wsX12_judge := (List.mem_cons_of_mem _ (List.mem_append_left _ (List.mem_append_left _ (List.mem_of_getElem? (i := 3) rfl))))
theorem hwX12_judge_4 : (.fieldLink RX12 166 "FortyBeltsModel" "belts" "I" : Cond) ∈ wsX12_judge := (List.mem_cons_of_mem _ (List.mem_append_left _ (List.mem_append_left _ (List.mem_of_getElem? (i := 1) rfl))))
theorem hwX12_judge_5 : (.fieldLink RX12 160 "FortyBeltsModel" "machines" "I" : Cond) ∈ wsX12_judge := (List.mem_cons_of_mem _ (List.mem_append_left _ (List.mem_append_left _ (List.mem_of_getElem? (i := 0) rfl))))
theorem hcX12_judge_X12 : ∀ w ∈ wsX120, w ∈ wsX12_judge := fun _ h => (List.mem_cons_of_mem _ (List.mem_append_right _ h))
set_option maxHeartbeats 4000000 in
set_option maxRecDepth 100000 in
theorem J_X12_judge {D : va_G} {KA : Nat → ClassId} {zs : ZS} {ad : Nat → Nat} {ids : List Nat} {sz : Nat} (l : Launch) (hI : ∀ c, c < 35 → c ∈ ids)   {σ : St} {post : Int32 → St → Prop} (h : wX12_judge   σ post) : Met l yX12_judge wsX12_judge rmX12_judge (va_Pc [.ref (ad 0)] (xIn D KA zs layR stR ad ids sz σ)) (va_Qi post (xOut D KA layR stR ad ids) (xA ad ids sz)) 0 0 (xA ad ids sz) := by
  refine Met.ofW (cc := cX12_judge) (maxL := 2) (ret := (some .int)) (by decide) rfl ?_
  intro p e s m args below meth c s₁ B hml hv
  obtain ⟨hav, hsz, hK, hZ, hP, hD⟩ := hv
  have hx := B.exec
  have hb := B.bytes
  have hr := B.returns
  have hts := atoms_spec (ws := wsX12_judge) B.pre
  have hown : s.vm.findClass RX12 = some m.cls := findClass_of_methodNamed B.named
  have hlocks := B.notSynchronized
  subst hsz
  have hA : ∀ q : Nat, s.heap.size ≤ q → xA ad ids s.heap.size q := fun q h => Or.inr h
  have hW : xW D KA layR stR ad ids (xA ad ids s.heap.size) s.heap σ s.heap [] := ⟨hP, xA_D (D := D) hD, va_S.rf⟩
  have kr : ∀ (v : Int32) (σ : St) (H : Heap) (locs : List Loc) (ls : Array Slot) (pc : Nat), xW D KA layR stR ad ids (xA ad ids s.heap.size) s.heap σ H locs → post v σ → decode cX12_judge pc = .ok (.ireturn, 1) → W p l e rmX12_judge s m args below meth c H locs 0 0 (MQ below (va_Qi post (xOut D KA layR stR ad ids) (xA ad ids s.heap.size)) args s 0 0 (xA ad ids s.heap.size)) (F0 m pc ls [.int v]) := fun v σ H locs ls pc hW h hd => x_iret hx hb hr hlocks hW h hd
  have hl := lv_entry ([.ref (ad 0)]) (n := 2) (Nat.le_of_ble_eq_true rfl)
  rw [show entryFrame m args 2 = entryFrame m ([.ref (ad 0)] : List Value).toArray 2 from by rw [hav]]
  rw [lg_entry_eq]
  generalize (lg_sl ([.ref (ad 0)]) ++ List.replicate (2 - (lg_sl ([.ref (ad 0)])).length) Slot.unset).toArray = ls at hl ⊢
  have hl : lv_has ls 2 [(0, .ref (ad 0))] := hl
  show W p l e rmX12_judge s m args below meth c s.heap [] 0 0 _ _
  generalize MQ below (va_Qi post (xOut D KA layR stR ad ids) (xA ad ids s.heap.size)) args s 0 0 (xA ad ids s.heap.size) = Q at kr ⊢
  have blk148 : ∀ (s0 : Int32) (σ : St) (H : Heap) (locs : List Loc) (ls : Array Slot), xW D KA layR stR ad ids (xA ad ids s.heap.size) s.heap σ H locs → lv_has ls 2 [] → wX12_judge_148 post s0 σ → W p l e rmX12_judge s m args below meth c H locs 0 0 Q (F0 m 148 ls [.int s0]) := by
    intro   s0 σ H locs ls hW hl h
    unfold wX12_judge_148 at h
    exact kr _ _ _ _ _ _ hW h dX12_judge_148
  have blk102 : ∀ (n : Nat) (x1 : Int32) (σ : St) (H : Heap) (locs : List Loc) (ls : Array Slot), xW D KA layR stR ad ids (xA ad ids s.heap.size) s.heap σ H locs → lv_has ls 2 [(0, .ref (ad 0)), (1, .int x1)] → wX12_judge_102 post  n x1 σ → W p l e rmX12_judge s m args below meth c H locs 0 0 Q (F0 m 102 ls []) := by
    intro    n
    induction n with
    | zero => intro x1 σ H locs ls hW hl h; exact (h : False).elim
    | succ n ih =>
      intro x1 σ H locs ls hW hl h
      have hk102 : ∀ (x1 : Int32) (σ : St) (H : Heap) (locs : List Loc) (ls : Array Slot), xW D KA layR stR ad ids (xA ad ids s.heap.size) s.heap σ H locs → lv_has ls 2 [(0, .ref (ad 0)), (1, .int x1)] → (wX12_judge_102 post  n) x1 σ → W p l e rmX12_judge s m args below meth c H locs 0 0 Q (F0 m 102 ls []) := fun x1 σ H locs ls hW hl h => ih x1 σ H locs ls hW hl h
      rw [wX12_judge_102_s] at h
      try dsimp only at h
      generalize wX12_judge_102 post  n = k102 at h hk102
      refine lv_iload_n hx hb dX12_judge_102 rfl (lv_at hl 1 rfl) ?_
      refine lv_aload_n hx hb dX12_judge_103 rfl (lv_at hl 0 rfl) ?_
      refine xgX12_20 hx hb hts hown hK hW 0 hcX12_judge_X12 (hI 0 (by decide)) lR_0 (hts _ hwX12_judge_0) dX12_judge_104 ?_
      refine lv_icmp_ge (tgt := 130) hx hb dX12_judge_107 (by decide) (fun c1 => ?_) (fun c1 => ?_)
      · have h := h.1 c1
        refine lv_aload_n hx hb dX12_judge_130 rfl (lv_at hl 0 rfl) ?_
        refine x_calli (va_runV (As := []) (rest := []) ⟨hx, hb, hml, hown, hts⟩ (J_X12_allLoaded l hI h) (cwV 0 hts gX12_judge_X12_allLoaded rfl rfl rfl hdV_X12_allLoaded ⟨Nat.le_of_ble_eq_true rfl, Nat.le_of_ble_eq_true rfl⟩) (x_preV (ci := 12) hK hZ hA hW (hI 0 (by decide)) lR_0 rfl) rfl rfl hl.1 rfl (lv_room (Nat.le_of_ble_eq_true rfl)) dX12_judge_131 ⟨Nat.zero_le _, Nat.zero_le _⟩) hW hA (fun r3 σ2 H locs h hW => ?_)
        try dsimp only at h
        refine lv_aload_n hx hb dX12_judge_134 rfl (lv_at hl 0 rfl) ?_
        refine xgX12_11 hx hb hts hown hK hW 0 hcX12_judge_X12 (hI 0 (by decide)) lR_0 (hts _ hwX12_judge_1) dX12_judge_135 ?_
        refine lv_icmp_le (tgt := 147) hx hb dX12_judge_138 (by decide) (fun c4 => ?_) (fun c4 => ?_)
        · have h := h.1 c4
          refine lv_iconst (v := (-1)) hx hb dX12_judge_147 (by decide) ?_
          exact blk148   (-1 : Int32) _ _ _ _ hW (lv_sub hl [] rfl) h
        · have h := h.2 c4
          refine lv_sipush (v := 5000) hx hb dX12_judge_141 (by decide) ?_
          refine lv_goto (tgt := 148) hx hb dX12_judge_144 (by decide) ?_
          exact blk148   (5000 : Int32) _ _ _ _ hW (lv_sub hl [] rfl) h
      · have h := h.2 c1
        refine lv_aload_n hx hb dX12_judge_110 rfl (lv_at hl 0 rfl) ?_
        refine lv_iload_n hx hb dX12_judge_111 rfl (lv_at hl 1 rfl) ?_
        refine x_calli (va_runV (As := [.int x1]) (rest := []) ⟨hx, hb, hml, hown, hts⟩ (J_X12_isTwice l hI h) (cwV 1 hts gX12_judge_X12_isTwice rfl rfl rfl hdV_X12_isTwice ⟨Nat.le_of_ble_eq_true rfl, Nat.le_of_ble_eq_true rfl⟩) (x_preV (ci := 12) hK hZ hA hW (hI 0 (by decide)) lR_0 rfl) rfl rfl hl.1 rfl (lv_room (Nat.le_of_ble_eq_true rfl)) dX12_judge_112 ⟨Nat.zero_le _, Nat.zero_le _⟩) hW hA (fun r6 σ5 H locs h hW => ?_)
        try dsimp only at h
        refine lv_if_eq (tgt := 124) hx hb dX12_judge_115 (by decide) (fun c7 => ?_) (fun c7 => ?_)
        · have h := h.1 c7
          obtain ⟨v8, hv8⟩ : ∃ y : Int32, y = x1 + (1 : Int32) := ⟨_, rfl⟩
          have h := h v8 hv8
          refine lv_iinc (v := v8) (lv' := [(1, .int v8), (0, .ref (ad 0))]) hx hb dX12_judge_124 hl (k := 1) rfl (by rw [hv8]; rfl) (by decide) rfl (fun ls hl => ?_)
          refine lv_goto (tgt := 102) hx hb dX12_judge_127 (by decide) ?_
          exact hk102 v8 _ _ _ _ hW (lv_sub hl [1, 0] rfl) h
        · have h := h.2 c7
          refine lv_sipush (v := 4000) hx hb dX12_judge_118 (by decide) ?_
          refine lv_iload_n hx hb dX12_judge_121 rfl (lv_at hl 1 rfl) ?_
          refine lv_iadd hx hb dX12_judge_122 ?_
          exact kr _ _ _ _ _ _ hW h dX12_judge_123
  have blk66 : ∀ (n : Nat) (x1 : Int32) (σ : St) (H : Heap) (locs : List Loc) (ls : Array Slot), xW D KA layR stR ad ids (xA ad ids s.heap.size) s.heap σ H locs → lv_has ls 2 [(0, .ref (ad 0)), (1, .int x1)] → wX12_judge_66 post  n x1 σ → W p l e rmX12_judge s m args below meth c H locs 0 0 Q (F0 m 66 ls []) := by
    intro    n
    induction n with
    | zero => intro x1 σ H locs ls hW hl h; exact (h : False).elim
    | succ n ih =>
      intro x1 σ H locs ls hW hl h
      have hk66 : ∀ (x1 : Int32) (σ : St) (H : Heap) (locs : List Loc) (ls : Array Slot), xW D KA layR stR ad ids (xA ad ids s.heap.size) s.heap σ H locs → lv_has ls 2 [(0, .ref (ad 0)), (1, .int x1)] → (wX12_judge_66 post  n) x1 σ → W p l e rmX12_judge s m args below meth c H locs 0 0 Q (F0 m 66 ls []) := fun x1 σ H locs ls hW hl h => ih x1 σ H locs ls hW hl h
      rw [wX12_judge_66_s] at h
      try dsimp only at h
      generalize wX12_judge_66 post  n = k66 at h hk66
      refine lv_iload_n hx hb dX12_judge_66 rfl (lv_at hl 1 rfl) ?_
      refine lv_aload_n hx hb dX12_judge_67 rfl (lv_at hl 0 rfl) ?_
      refine xgX12_9 hx hb hts hown hK hW 0 hcX12_judge_X12 (hI 0 (by decide)) lR_0 (hts _ hwX12_judge_2) dX12_judge_68 ?_
      refine lv_icmp_ge (tgt := 100) hx hb dX12_judge_71 (by decide) (fun c9 => ?_) (fun c9 => ?_)
      · have h := h.1 c9
        refine lv_iconst (v := 0) hx hb dX12_judge_100 (by decide) ?_
        refine lv_istore_n (lv' := [(1, .int (0 : Int32)), (0, .ref (ad 0))]) hx hb dX12_judge_101 rfl hl (by decide) rfl (fun ls hl => ?_)
        obtain ⟨n, h⟩ := h
        exact blk102    n (0 : Int32) _ _ _ _ hW (lv_sub hl [1, 0] rfl) h
      · have h := h.2 c9
        refine lv_aload_n hx hb dX12_judge_74 rfl (lv_at hl 0 rfl) ?_
        refine lv_iload_n hx hb dX12_judge_75 rfl (lv_at hl 1 rfl) ?_
        refine x_calli (va_runV (As := [.int x1]) (rest := []) ⟨hx, hb, hml, hown, hts⟩ (J_X12_pullsAt l hI h) (cwV 1 hts gX12_judge_X12_pullsAt rfl rfl rfl hdV_X12_pullsAt ⟨Nat.le_of_ble_eq_true rfl, Nat.le_of_ble_eq_true rfl⟩) (x_preV (ci := 12) hK hZ hA hW (hI 0 (by decide)) lR_0 rfl) rfl rfl hl.1 rfl (lv_room (Nat.le_of_ble_eq_true rfl)) dX12_judge_76 ⟨Nat.zero_le _, Nat.zero_le _⟩) hW hA (fun r12 σ11 H locs h hW => ?_)
        try dsimp only at h
        refine lv_aload_n hx hb dX12_judge_79 rfl (lv_at hl 0 rfl) ?_
        refine xgX12_8r hx hb hts hown hK hW 0 hcX12_judge_X12 (hI 0 (by decide)) lR_0 (hts _ hwX12_judge_3) (sR_0_8 _) dX12_judge_80 ?_
        refine lv_iload_n hx hb dX12_judge_83 rfl (lv_at hl 1 rfl) ?_
        obtain ⟨hi13, h⟩ := h
        refine x_iald hx hb hK hW 5 (hI 5 (by decide)) lR_5 hi13 dX12_judge_84 ?_
        refine lv_icmp_le (tgt := 94) hx hb dX12_judge_85 (by decide) (fun c14 => ?_) (fun c14 => ?_)
        · have h := h.1 c14
          obtain ⟨v15, hv15⟩ : ∃ y : Int32, y = x1 + (1 : Int32) := ⟨_, rfl⟩
          have h := h v15 hv15
          refine lv_iinc (v := v15) (lv' := [(1, .int v15), (0, .ref (ad 0))]) hx hb dX12_judge_94 hl (k := 1) rfl (by rw [hv15]; rfl) (by decide) rfl (fun ls hl => ?_)
          refine lv_goto (tgt := 66) hx hb dX12_judge_97 (by decide) ?_
          exact hk66 v15 _ _ _ _ hW (lv_sub hl [1, 0] rfl) h
        · have h := h.2 c14
          refine lv_sipush (v := 3000) hx hb dX12_judge_88 (by decide) ?_
          refine lv_iload_n hx hb dX12_judge_91 rfl (lv_at hl 1 rfl) ?_
          refine lv_iadd hx hb dX12_judge_92 ?_
          exact kr _ _ _ _ _ _ hW h dX12_judge_93
  have blk36 : ∀ (n : Nat) (x1 : Int32) (σ : St) (H : Heap) (locs : List Loc) (ls : Array Slot), xW D KA layR stR ad ids (xA ad ids s.heap.size) s.heap σ H locs → lv_has ls 2 [(0, .ref (ad 0)), (1, .int x1)] → wX12_judge_36 post  n x1 σ → W p l e rmX12_judge s m args below meth c H locs 0 0 Q (F0 m 36 ls []) := by
    intro    n
    induction n with
    | zero => intro x1 σ H locs ls hW hl h; exact (h : False).elim
    | succ n ih =>
      intro x1 σ H locs ls hW hl h
      have hk36 : ∀ (x1 : Int32) (σ : St) (H : Heap) (locs : List Loc) (ls : Array Slot), xW D KA layR stR ad ids (xA ad ids s.heap.size) s.heap σ H locs → lv_has ls 2 [(0, .ref (ad 0)), (1, .int x1)] → (wX12_judge_36 post  n) x1 σ → W p l e rmX12_judge s m args below meth c H locs 0 0 Q (F0 m 36 ls []) := fun x1 σ H locs ls hW hl h => ih x1 σ H locs ls hW hl h
      rw [wX12_judge_36_s] at h
      try dsimp only at h
      generalize wX12_judge_36 post  n = k36 at h hk36
      refine lv_iload_n hx hb dX12_judge_36 rfl (lv_at hl 1 rfl) ?_
      refine lv_aload_n hx hb dX12_judge_37 rfl (lv_at hl 0 rfl) ?_
      refine xgX12_28 hx hb hts hown hK hW 0 hcX12_judge_X12 (hI 0 (by decide)) lR_0 (hts _ hwX12_judge_4) dX12_judge_38 ?_
      refine lv_icmp_ge (tgt := 64) hx hb dX12_judge_41 (by decide) (fun c16 => ?_) (fun c16 => ?_)
      · have h := h.1 c16
        refine lv_iconst (v := 0) hx hb dX12_judge_64 (by decide) ?_
        refine lv_istore_n (lv' := [(1, .int (0 : Int32)), (0, .ref (ad 0))]) hx hb dX12_judge_65 rfl hl (by decide) rfl (fun ls hl => ?_)
        obtain ⟨n, h⟩ := h
        exact blk66    n (0 : Int32) _ _ _ _ hW (lv_sub hl [1, 0] rfl) h
      · have h := h.2 c16
        refine lv_aload_n hx hb dX12_judge_44 rfl (lv_at hl 0 rfl) ?_
        refine lv_iload_n hx hb dX12_judge_45 rfl (lv_at hl 1 rfl) ?_
        refine x_calli (va_runV (As := [.int x1]) (rest := []) ⟨hx, hb, hml, hown, hts⟩ (J_X12_slips l hI h) (cwV 1 hts gX12_judge_X12_slips rfl rfl rfl hdV_X12_slips ⟨Nat.le_of_ble_eq_true rfl, Nat.le_of_ble_eq_true rfl⟩) (x_preV (ci := 12) hK hZ hA hW (hI 0 (by decide)) lR_0 rfl) rfl rfl hl.1 rfl (lv_room (Nat.le_of_ble_eq_true rfl)) dX12_judge_46 ⟨Nat.zero_le _, Nat.zero_le _⟩) hW hA (fun r19 σ18 H locs h hW => ?_)
        try dsimp only at h
        refine lv_if_eq (tgt := 58) hx hb dX12_judge_49 (by decide) (fun c20 => ?_) (fun c20 => ?_)
        · have h := h.1 c20
          obtain ⟨v21, hv21⟩ : ∃ y : Int32, y = x1 + (1 : Int32) := ⟨_, rfl⟩
          have h := h v21 hv21
          refine lv_iinc (v := v21) (lv' := [(1, .int v21), (0, .ref (ad 0))]) hx hb dX12_judge_58 hl (k := 1) rfl (by rw [hv21]; rfl) (by decide) rfl (fun ls hl => ?_)
          refine lv_goto (tgt := 36) hx hb dX12_judge_61 (by decide) ?_
          exact hk36 v21 _ _ _ _ hW (lv_sub hl [1, 0] rfl) h
        · have h := h.2 c20
          refine lv_sipush (v := 2000) hx hb dX12_judge_52 (by decide) ?_
          refine lv_iload_n hx hb dX12_judge_55 rfl (lv_at hl 1 rfl) ?_
          refine lv_iadd hx hb dX12_judge_56 ?_
          exact kr _ _ _ _ _ _ hW h dX12_judge_57
  have blk6 : ∀ (n : Nat) (x1 : Int32) (σ : St) (H : Heap) (locs : List Loc) (ls : Array Slot), xW D KA layR stR ad ids (xA ad ids s.heap.size) s.heap σ H locs → lv_has ls 2 [(0, .ref (ad 0)), (1, .int x1)] → wX12_judge_6 post  n x1 σ → W p l e rmX12_judge s m args below meth c H locs 0 0 Q (F0 m 6 ls []) := by
    intro    n
    induction n with
    | zero => intro x1 σ H locs ls hW hl h; exact (h : False).elim
    | succ n ih =>
      intro x1 σ H locs ls hW hl h
      have hk6 : ∀ (x1 : Int32) (σ : St) (H : Heap) (locs : List Loc) (ls : Array Slot), xW D KA layR stR ad ids (xA ad ids s.heap.size) s.heap σ H locs → lv_has ls 2 [(0, .ref (ad 0)), (1, .int x1)] → (wX12_judge_6 post  n) x1 σ → W p l e rmX12_judge s m args below meth c H locs 0 0 Q (F0 m 6 ls []) := fun x1 σ H locs ls hW hl h => ih x1 σ H locs ls hW hl h
      rw [wX12_judge_6_s] at h
      try dsimp only at h
      generalize wX12_judge_6 post  n = k6 at h hk6
      refine lv_iload_n hx hb dX12_judge_6 rfl (lv_at hl 1 rfl) ?_
      refine lv_aload_n hx hb dX12_judge_7 rfl (lv_at hl 0 rfl) ?_
      refine xgX12_18 hx hb hts hown hK hW 0 hcX12_judge_X12 (hI 0 (by decide)) lR_0 (hts _ hwX12_judge_5) dX12_judge_8 ?_
      refine lv_icmp_ge (tgt := 34) hx hb dX12_judge_11 (by decide) (fun c22 => ?_) (fun c22 => ?_)
      · have h := h.1 c22
        refine lv_iconst (v := 0) hx hb dX12_judge_34 (by decide) ?_
        refine lv_istore_n (lv' := [(1, .int (0 : Int32)), (0, .ref (ad 0))]) hx hb dX12_judge_35 rfl hl (by decide) rfl (fun ls hl => ?_)
        obtain ⟨n, h⟩ := h
        exact blk36    n (0 : Int32) _ _ _ _ hW (lv_sub hl [1, 0] rfl) h
      · have h := h.2 c22
        refine lv_aload_n hx hb dX12_judge_14 rfl (lv_at hl 0 rfl) ?_
        refine lv_iload_n hx hb dX12_judge_15 rfl (lv_at hl 1 rfl) ?_
        refine x_calli (va_runV (As := [.int x1]) (rest := []) ⟨hx, hb, hml, hown, hts⟩ (J_X12_runsWell l hI h) (cwV 1 hts gX12_judge_X12_runsWell rfl rfl rfl hdV_X12_runsWell ⟨Nat.le_of_ble_eq_true rfl, Nat.le_of_ble_eq_true rfl⟩) (x_preV (ci := 12) hK hZ hA hW (hI 0 (by decide)) lR_0 rfl) rfl rfl hl.1 rfl (lv_room (Nat.le_of_ble_eq_true rfl)) dX12_judge_16 ⟨Nat.zero_le _, Nat.zero_le _⟩) hW hA (fun r25 σ24 H locs h hW => ?_)
        try dsimp only at h
        refine lv_if_ne (tgt := 28) hx hb dX12_judge_19 (by decide) (fun c26 => ?_) (fun c26 => ?_)
        · have h := h.1 c26
          obtain ⟨v27, hv27⟩ : ∃ y : Int32, y = x1 + (1 : Int32) := ⟨_, rfl⟩
          have h := h v27 hv27
          refine lv_iinc (v := v27) (lv' := [(1, .int v27), (0, .ref (ad 0))]) hx hb dX12_judge_28 hl (k := 1) rfl (by rw [hv27]; rfl) (by decide) rfl (fun ls hl => ?_)
          refine lv_goto (tgt := 6) hx hb dX12_judge_31 (by decide) ?_
          exact hk6 v27 _ _ _ _ hW (lv_sub hl [1, 0] rfl) h
        · have h := h.2 c26
          refine lv_sipush (v := 1000) hx hb dX12_judge_22 (by decide) ?_
          refine lv_iload_n hx hb dX12_judge_25 rfl (lv_at hl 1 rfl) ?_
          refine lv_iadd hx hb dX12_judge_26 ?_
          exact kr _ _ _ _ _ _ hW h dX12_judge_27
  have main : ∀ (H : Heap) (locs : List Loc) (ls : Array Slot), xW D KA layR stR ad ids (xA ad ids s.heap.size) s.heap σ H locs → lv_has ls 2 [(0, .ref (ad 0))] → W p l e rmX12_judge s m args below meth c H locs 0 0 Q (F0 m 0 ls []) := by
    intro H locs ls hW hl
    unfold wX12_judge at h
    refine lv_aload_n hx hb dX12_judge_0 rfl (lv_at hl 0 rfl) ?_
    refine x_callv (va_runV (As := []) (rest := []) ⟨hx, hb, hml, hown, hts⟩ (J_X12_lays l hI h) (cwV 0 hts gX12_judge_X12_lays rfl rfl rfl hdV_X12_lays ⟨Nat.le_of_ble_eq_true rfl, Nat.le_of_ble_eq_true rfl⟩) (x_preV (ci := 12) hK hZ hA hW (hI 0 (by decide)) lR_0 rfl) rfl rfl hl.1 rfl (lv_room (Nat.le_of_ble_eq_true rfl)) dX12_judge_1 ⟨Nat.zero_le _, Nat.zero_le _⟩) hW hA (fun σ1001 H locs h hW => ?_)
    try dsimp only at h
    refine lv_iconst (v := 0) hx hb dX12_judge_4 (by decide) ?_
    refine lv_istore_n (lv' := [(1, .int (0 : Int32)), (0, .ref (ad 0))]) hx hb dX12_judge_5 rfl hl (by decide) rfl (fun ls hl => ?_)
    obtain ⟨n, h⟩ := h
    exact blk6    n (0 : Int32) _ _ _ _ hW (lv_sub hl [1, 0] rfl) h
  exact main _ _ _ hW hl
