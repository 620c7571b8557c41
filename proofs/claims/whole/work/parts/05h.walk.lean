theorem hwX12_both_0 : (.constantLong RX12 397 (1111) : Cond) ∈ wsX12_both := (List.mem_cons_of_mem _ (List.mem_append_left _ (List.mem_append_left _ (List.mem_of_getElem? (i := 0) rfl))))
set_option maxHeartbeats 4000000 in
set_option maxRecDepth 100000 in
theorem JO_X12_both {D : va_G} {KA : Nat → ClassId} {zs : ZS} {ad : Nat → Nat} {ids : List Nat} {sz : Nat} (l : Launch) (hI : ∀ c, c < 35 → c ∈ ids) (d : Nat) {rec : Nat → St → (Int32 → St → Prop) → Prop} (hrec0 : ∀ {σ : St} {post : Int32 → St → Prop} {sz : Nat}, rec 0  σ post → Met l yX12_either wsX12_either (rmgR d) (va_Pc [.ref (ad 0)] (xIn D KA zs layR stR ad ids sz σ)) (va_Qi post (xOut D KA layR stR ad ids) (xA ad ids sz)) 0 0 (xA ad ids sz)) (hrec1 : ∀ {σ : St} {post : Int32 → St → Prop} {sz : Nat}, rec 1  σ post → Met l yX12_both wsX12_both (rmgR d) (va_Pc [.ref (ad 0)] (xIn D KA zs layR stR ad ids sz σ)) (va_Qi post (xOut D KA layR stR ad ids) (xA ad ids sz)) 0 0 (xA ad ids sz)) (hrec2 : ∀ {σ : St} {post : Int32 → St → Prop} {sz : Nat}, rec 2  σ post → Met l yX12_not wsX12_not (rmgR d) (va_Pc [.ref (ad 0)] (xIn D KA zs layR stR ad ids sz σ)) (va_Qi post (xOut D KA layR stR ad ids) (xA ad ids sz)) 0 0 (xA ad ids sz)) (hrec3 : ∀ {σ : St} {post : Int32 → St → Prop} {sz : Nat}, rec 3  σ post → Met l yX12_added wsX12_added (rmgR d) (va_Pc [.ref (ad 0)] (xIn D KA zs layR stR ad ids sz σ)) (va_Qi post (xOut D KA layR stR ad ids) (xA ad ids sz)) 0 0 (xA ad ids sz)) (hrec4 : ∀ {σ : St} {post : Int32 → St → Prop} {sz : Nat}, rec 4  σ post → Met l yX12_term wsX12_term (rmgR d) (va_Pc [.ref (ad 0)] (xIn D KA zs layR stR ad ids sz σ)) (va_Qi post (xOut D KA layR stR ad ids) (xA ad ids sz)) 0 0 (xA ad ids sz)) (hrec5 : ∀ {σ : St} {post : Int32 → St → Prop} {sz : Nat}, rec 5  σ post → Met l yX12_one wsX12_one (rmgR d) (va_Pc [.ref (ad 0)] (xIn D KA zs layR stR ad ids sz σ)) (va_Qi post (xOut D KA layR stR ad ids) (xA ad ids sz)) 0 0 (xA ad ids sz))   {σ : St} {post : Int32 → St → Prop} (h : wX12_both rec  σ post) : Met l yX12_both wsX12_both (rmgR (d + 1)) (va_Pc [.ref (ad 0)] (xIn D KA zs layR stR ad ids sz σ)) (va_Qi post (xOut D KA layR stR ad ids) (xA ad ids sz)) 0 0 (xA ad ids sz) := by
  refine Met.ofW (cc := cX12_both) (maxL := 3) (ret := (some .int)) (by decide) rfl ?_
  intro p e s m args below meth c s₁ B hml hv
  obtain ⟨hav, hsz, hK, hZ, hP, hD⟩ := hv
  have hx := B.exec
  have hb := B.bytes
  have hr := B.returns
  have hts := atoms_spec (ws := wsX12_both) B.pre
  have hown : s.vm.findClass RX12 = some m.cls := findClass_of_methodNamed B.named
  have hlocks := B.notSynchronized
  subst hsz
  have hA : ∀ q : Nat, s.heap.size ≤ q → xA ad ids s.heap.size q := fun q h => Or.inr h
  have hW : xW D KA layR stR ad ids (xA ad ids s.heap.size) s.heap σ s.heap [] := ⟨hP, xA_D (D := D) hD, va_S.rf⟩
  have kr : ∀ (v : Int32) (σ : St) (H : Heap) (locs : List Loc) (ls : Array Slot) (pc : Nat), xW D KA layR stR ad ids (xA ad ids s.heap.size) s.heap σ H locs → post v σ → decode cX12_both pc = .ok (.ireturn, 1) → W p l e (rmgR (d + 1)) s m args below meth c H locs 0 0 (MQ below (va_Qi post (xOut D KA layR stR ad ids) (xA ad ids s.heap.size)) args s 0 0 (xA ad ids s.heap.size)) (F0 m pc ls [.int v]) := fun v σ H locs ls pc hW h hd => x_iret hx hb hr hlocks hW h hd
  have hl := lv_entry ([.ref (ad 0)]) (n := 3) (Nat.le_of_ble_eq_true rfl)
  rw [show entryFrame m args 3 = entryFrame m ([.ref (ad 0)] : List Value).toArray 3 from by rw [hav]]
  rw [lg_entry_eq]
  generalize (lg_sl ([.ref (ad 0)]) ++ List.replicate (3 - (lg_sl ([.ref (ad 0)])).length) Slot.unset).toArray = ls at hl ⊢
  have hl : lv_has ls 3 [(0, .ref (ad 0))] := hl
  show W p l e (rmgR (d + 1)) s m args below meth c s.heap [] 0 0 _ _
  generalize MQ below (va_Qi post (xOut D KA layR stR ad ids) (xA ad ids s.heap.size)) args s 0 0 (xA ad ids s.heap.size) = Q at kr ⊢
  have blk37 : ∀ (k5 : Int32 → St → Prop) (hk5 : ∀ (x1 : Int32) (σ : St) (H : Heap) (locs : List Loc) (ls : Array Slot), xW D KA layR stR ad ids (xA ad ids s.heap.size) s.heap σ H locs → lv_has ls 3 [(0, .ref (ad 0)), (1, .int x1)] → k5 x1 σ → W p l e (rmgR (d + 1)) s m args below meth c H locs 0 0 Q (F0 m 5 ls [])) (s0 : Int32) (σ : St) (H : Heap) (locs : List Loc) (ls : Array Slot), xW D KA layR stR ad ids (xA ad ids s.heap.size) s.heap σ H locs → lv_has ls 3 [(0, .ref (ad 0))] → wX12_both_37 rec k5 post s0 σ → W p l e (rmgR (d + 1)) s m args below meth c H locs 0 0 Q (F0 m 37 ls [.int s0]) := by
    intro  k5 hk5 s0 σ H locs ls hW hl h
    unfold wX12_both_37 at h
    refine lv_istore_n (lv' := [(1, .int s0), (0, .ref (ad 0))]) hx hb dX12_both_37 rfl hl (by decide) rfl (fun ls hl => ?_)
    refine lv_goto (tgt := 5) hx hb dX12_both_38 (by decide) ?_
    exact hk5 s0 _ _ _ _ hW (lv_sub hl [1, 0] rfl) h
  have blk36 : ∀ (k5 : Int32 → St → Prop) (hk5 : ∀ (x1 : Int32) (σ : St) (H : Heap) (locs : List Loc) (ls : Array Slot), xW D KA layR stR ad ids (xA ad ids s.heap.size) s.heap σ H locs → lv_has ls 3 [(0, .ref (ad 0)), (1, .int x1)] → k5 x1 σ → W p l e (rmgR (d + 1)) s m args below meth c H locs 0 0 Q (F0 m 5 ls []))  (σ : St) (H : Heap) (locs : List Loc) (ls : Array Slot), xW D KA layR stR ad ids (xA ad ids s.heap.size) s.heap σ H locs → lv_has ls 3 [(0, .ref (ad 0))] → wX12_both_36 rec k5 post  σ → W p l e (rmgR (d + 1)) s m args below meth c H locs 0 0 Q (F0 m 36 ls []) := by
    intro  k5 hk5  σ H locs ls hW hl h
    unfold wX12_both_36 at h
    refine lv_iconst (v := 0) hx hb dX12_both_36 (by decide) ?_
    exact blk37  k5 hk5 (0 : Int32) _ _ _ _ hW (lv_sub hl [0] rfl) h
  have blk5 : ∀ (n : Nat) (x1 : Int32) (σ : St) (H : Heap) (locs : List Loc) (ls : Array Slot), xW D KA layR stR ad ids (xA ad ids s.heap.size) s.heap σ H locs → lv_has ls 3 [(0, .ref (ad 0)), (1, .int x1)] → wX12_both_5 rec post  n x1 σ → W p l e (rmgR (d + 1)) s m args below meth c H locs 0 0 Q (F0 m 5 ls []) := by
    intro    n
    induction n with
    | zero => intro x1 σ H locs ls hW hl h; exact (h : False).elim
    | succ n ih =>
      intro x1 σ H locs ls hW hl h
      have hk5 : ∀ (x1 : Int32) (σ : St) (H : Heap) (locs : List Loc) (ls : Array Slot), xW D KA layR stR ad ids (xA ad ids s.heap.size) s.heap σ H locs → lv_has ls 3 [(0, .ref (ad 0)), (1, .int x1)] → (wX12_both_5 rec post  n) x1 σ → W p l e (rmgR (d + 1)) s m args below meth c H locs 0 0 Q (F0 m 5 ls []) := fun x1 σ H locs ls hW hl h => ih x1 σ H locs ls hW hl h
      rw [wX12_both_5_s] at h
      try dsimp only at h
      generalize wX12_both_5 rec post  n = k5 at h hk5
      refine lv_aload_n hx hb dX12_both_5 rfl (lv_at hl 0 rfl) ?_
      refine lv_ldc2 hx hb hown (hts _ hwX12_both_0) dX12_both_6 ?_
      refine x_calli (va_runV (As := [.long (1111 : Int64)]) (rest := []) ⟨hx, hb, hml, hown, hts⟩ (J_X12_isWord l hI h) (cwV 1 hts gX12_both_X12_isWord rfl rfl rfl hdV_X12_isWord ⟨rmgR_of d (Nat.le_of_ble_eq_true rfl), rmgR_ol d (Nat.le_of_ble_eq_true rfl)⟩) (x_preV (ci := 12) hK hZ hA hW (hI 0 (by decide)) lR_0 rfl) rfl rfl hl.1 rfl (lv_room (Nat.le_of_ble_eq_true rfl)) dX12_both_9 ⟨Nat.zero_le _, Nat.zero_le _⟩) hW hA (fun r2 σ1 H locs h hW => ?_)
      try dsimp only at h
      refine lv_if_eq (tgt := 41) hx hb dX12_both_12 (by decide) (fun c3 => ?_) (fun c3 => ?_)
      · have h := h.1 c3
        refine lv_iload_n hx hb dX12_both_41 rfl (lv_at hl 1 rfl) ?_
        exact kr _ _ _ _ _ _ hW h dX12_both_42
      · have h := h.2 c3
        refine lv_aload_n hx hb dX12_both_15 rfl (lv_at hl 0 rfl) ?_
        refine x_callv (va_runV (As := []) (rest := []) ⟨hx, hb, hml, hown, hts⟩ (J_X12_next l hI h) (cwV 0 hts gX12_both_X12_next rfl rfl rfl hdV_X12_next ⟨rmgR_of d (Nat.le_of_ble_eq_true rfl), rmgR_ol d (Nat.le_of_ble_eq_true rfl)⟩) (x_preV (ci := 12) hK hZ hA hW (hI 0 (by decide)) lR_0 rfl) rfl rfl hl.1 rfl (lv_room (Nat.le_of_ble_eq_true rfl)) dX12_both_16 ⟨Nat.zero_le _, Nat.zero_le _⟩) hW hA (fun σ4 H locs h hW => ?_)
        try dsimp only at h
        refine lv_aload_n hx hb dX12_both_19 rfl (lv_at hl 0 rfl) ?_
        refine x_calli (va_runV (As := []) (rest := []) ⟨hx, hb, hml, hown, hts⟩ (hrec2 h) (cwV 0 hts gX12_both_X12_not rfl rfl rfl hdV_X12_not ⟨rmgR_f d, rmgR_l d (Nat.le_of_ble_eq_true rfl)⟩) (x_preV (ci := 12) hK hZ hA hW (hI 0 (by decide)) lR_0 rfl) rfl rfl hl.1 rfl (lv_room (Nat.le_of_ble_eq_true rfl)) dX12_both_20 ⟨Nat.zero_le _, Nat.zero_le _⟩) hW hA (fun r6 σ5 H locs h hW => ?_)
        try dsimp only at h
        refine lv_istore_n (lv' := [(2, .int r6), (0, .ref (ad 0)), (1, .int x1)]) hx hb dX12_both_23 rfl hl (by decide) rfl (fun ls hl => ?_)
        refine lv_iload_n hx hb dX12_both_24 rfl (lv_at hl 2 rfl) ?_
        refine lv_if_eq (tgt := 36) hx hb dX12_both_25 (by decide) (fun c7 => ?_) (fun c7 => ?_)
        · have h := h.1 c7
          exact blk36  k5 hk5  _ _ _ _ hW (lv_sub hl [1] rfl) h
        · have h := h.2 c7
          refine lv_iload_n hx hb dX12_both_28 rfl (lv_at hl 0 rfl) ?_
          refine lv_if_eq (tgt := 36) hx hb dX12_both_29 (by decide) (fun c8 => ?_) (fun c8 => ?_)
          · have h := h.1 c8
            exact blk36  k5 hk5  _ _ _ _ hW (lv_sub hl [1] rfl) h
          · have h := h.2 c8
            refine lv_iconst (v := 1) hx hb dX12_both_32 (by decide) ?_
            refine lv_goto (tgt := 37) hx hb dX12_both_33 (by decide) ?_
            exact blk37  k5 hk5 (1 : Int32) _ _ _ _ hW (lv_sub hl [1] rfl) h
  have main : ∀ (H : Heap) (locs : List Loc) (ls : Array Slot), xW D KA layR stR ad ids (xA ad ids s.heap.size) s.heap σ H locs → lv_has ls 3 [(0, .ref (ad 0))] → W p l e (rmgR (d + 1)) s m args below meth c H locs 0 0 Q (F0 m 0 ls []) := by
    intro H locs ls hW hl
    unfold wX12_both at h
    refine lv_aload_n hx hb dX12_both_0 rfl (lv_at hl 0 rfl) ?_
    refine x_calli (va_runV (As := []) (rest := []) ⟨hx, hb, hml, hown, hts⟩ (hrec2 h) (cwV 0 hts gX12_both_X12_not rfl rfl rfl hdV_X12_not ⟨rmgR_f d, rmgR_l d (Nat.le_of_ble_eq_true rfl)⟩) (x_preV (ci := 12) hK hZ hA hW (hI 0 (by decide)) lR_0 rfl) rfl rfl hl.1 rfl (lv_room (Nat.le_of_ble_eq_true rfl)) dX12_both_1 ⟨Nat.zero_le _, Nat.zero_le _⟩) hW hA (fun r1002 σ1001 H locs h hW => ?_)
    try dsimp only at h
    refine lv_istore_n (lv' := [(1, .int r1002), (0, .ref (ad 0))]) hx hb dX12_both_4 rfl hl (by decide) rfl (fun ls hl => ?_)
    obtain ⟨n, h⟩ := h
    exact blk5    n r1002 _ _ _ _ hW (lv_sub hl [1, 0] rfl) h
  exact main _ _ _ hW hl
theorem hwX12_either_0 : (.constantLong RX12 402 (423) : Cond) ∈ wsX12_either := (List.mem_cons_of_mem _ (List.mem_append_left _ (List.mem_append_left _ (List.mem_of_getElem? (i := 0) rfl))))
set_option maxHeartbeats 4000000 in
set_option maxRecDepth 100000 in
theorem JO_X12_either {D : va_G} {KA : Nat → ClassId} {zs : ZS} {ad : Nat → Nat} {ids : List Nat} {sz : Nat} (l : Launch) (hI : ∀ c, c < 35 → c ∈ ids) (d : Nat) {rec : Nat → St → (Int32 → St → Prop) → Prop} (hrec0 : ∀ {σ : St} {post : Int32 → St → Prop} {sz : Nat}, rec 0  σ post → Met l yX12_either wsX12_either (rmgR d) (va_Pc [.ref (ad 0)] (xIn D KA zs layR stR ad ids sz σ)) (va_Qi post (xOut D KA layR stR ad ids) (xA ad ids sz)) 0 0 (xA ad ids sz)) (hrec1 : ∀ {σ : St} {post : Int32 → St → Prop} {sz : Nat}, rec 1  σ post → Met l yX12_both wsX12_both (rmgR d) (va_Pc [.ref (ad 0)] (xIn D KA zs layR stR ad ids sz σ)) (va_Qi post (xOut D KA layR stR ad ids) (xA ad ids sz)) 0 0 (xA ad ids sz)) (hrec2 : ∀ {σ : St} {post : Int32 → St → Prop} {sz : Nat}, rec 2  σ post → Met l yX12_not wsX12_not (rmgR d) (va_Pc [.ref (ad 0)] (xIn D KA zs layR stR ad ids sz σ)) (va_Qi post (xOut D KA layR stR ad ids) (xA ad ids sz)) 0 0 (xA ad ids sz)) (hrec3 : ∀ {σ : St} {post : Int32 → St → Prop} {sz : Nat}, rec 3  σ post → Met l yX12_added wsX12_added (rmgR d) (va_Pc [.ref (ad 0)] (xIn D KA zs layR stR ad ids sz σ)) (va_Qi post (xOut D KA layR stR ad ids) (xA ad ids sz)) 0 0 (xA ad ids sz)) (hrec4 : ∀ {σ : St} {post : Int32 → St → Prop} {sz : Nat}, rec 4  σ post → Met l yX12_term wsX12_term (rmgR d) (va_Pc [.ref (ad 0)] (xIn D KA zs layR stR ad ids sz σ)) (va_Qi post (xOut D KA layR stR ad ids) (xA ad ids sz)) 0 0 (xA ad ids sz)) (hrec5 : ∀ {σ : St} {post : Int32 → St → Prop} {sz : Nat}, rec 5  σ post → Met l yX12_one wsX12_one (rmgR d) (va_Pc [.ref (ad 0)] (xIn D KA zs layR stR ad ids sz σ)) (va_Qi post (xOut D KA layR stR ad ids) (xA ad ids sz)) 0 0 (xA ad ids sz))   {σ : St} {post : Int32 → St → Prop} (h : wX12_either rec  σ post) : Met l yX12_either wsX12_either (rmgR (d + 1)) (va_Pc [.ref (ad 0)] (xIn D KA zs layR stR ad ids sz σ)) (va_Qi post (xOut D KA layR stR ad ids) (xA ad ids sz)) 0 0 (xA ad ids sz) := by
  refine Met.ofW (cc := cX12_either) (maxL := 3) (ret := (some .int)) (by decide) rfl ?_
  intro p e s m args below meth c s₁ B hml hv
  obtain ⟨hav, hsz, hK, hZ, hP, hD⟩ := hv
  have hx := B.exec
  have hb := B.bytes
  have hr := B.returns
  have hts := atoms_spec (ws := wsX12_either) B.pre
  have hown : s.vm.findClass RX12 = some m.cls := findClass_of_methodNamed B.named
  have hlocks := B.notSynchronized
  subst hsz
  have hA : ∀ q : Nat, s.heap.size ≤ q → xA ad ids s.heap.size q := fun q h => Or.inr h
  have hW : xW D KA layR stR ad ids (xA ad ids s.heap.size) s.heap σ s.heap [] := ⟨hP, xA_D (D := D) hD, va_S.rf⟩
  have kr : ∀ (v : Int32) (σ : St) (H : Heap) (locs : List Loc) (ls : Array Slot) (pc : Nat), xW D KA layR stR ad ids (xA ad ids s.heap.size) s.heap σ H locs → post v σ → decode cX12_either pc = .ok (.ireturn, 1) → W p l e (rmgR (d + 1)) s m args below meth c H locs 0 0 (MQ below (va_Qi post (xOut D KA layR stR ad ids) (xA ad ids s.heap.size)) args s 0 0 (xA ad ids s.heap.size)) (F0 m pc ls [.int v]) := fun v σ H locs ls pc hW h hd => x_iret hx hb hr hlocks hW h hd
  have hl := lv_entry ([.ref (ad 0)]) (n := 3) (Nat.le_of_ble_eq_true rfl)
  rw [show entryFrame m args 3 = entryFrame m ([.ref (ad 0)] : List Value).toArray 3 from by rw [hav]]
  rw [lg_entry_eq]
  generalize (lg_sl ([.ref (ad 0)]) ++ List.replicate (3 - (lg_sl ([.ref (ad 0)])).length) Slot.unset).toArray = ls at hl ⊢
  have hl : lv_has ls 3 [(0, .ref (ad 0))] := hl
  show W p l e (rmgR (d + 1)) s m args below meth c s.heap [] 0 0 _ _
  generalize MQ below (va_Qi post (xOut D KA layR stR ad ids) (xA ad ids s.heap.size)) args s 0 0 (xA ad ids s.heap.size) = Q at kr ⊢
  have blk37 : ∀ (k5 : Int32 → St → Prop) (hk5 : ∀ (x1 : Int32) (σ : St) (H : Heap) (locs : List Loc) (ls : Array Slot), xW D KA layR stR ad ids (xA ad ids s.heap.size) s.heap σ H locs → lv_has ls 3 [(0, .ref (ad 0)), (1, .int x1)] → k5 x1 σ → W p l e (rmgR (d + 1)) s m args below meth c H locs 0 0 Q (F0 m 5 ls [])) (s0 : Int32) (σ : St) (H : Heap) (locs : List Loc) (ls : Array Slot), xW D KA layR stR ad ids (xA ad ids s.heap.size) s.heap σ H locs → lv_has ls 3 [(0, .ref (ad 0))] → wX12_either_37 rec k5 post s0 σ → W p l e (rmgR (d + 1)) s m args below meth c H locs 0 0 Q (F0 m 37 ls [.int s0]) := by
    intro  k5 hk5 s0 σ H locs ls hW hl h
    unfold wX12_either_37 at h
    refine lv_istore_n (lv' := [(1, .int s0), (0, .ref (ad 0))]) hx hb dX12_either_37 rfl hl (by decide) rfl (fun ls hl => ?_)
    refine lv_goto (tgt := 5) hx hb dX12_either_38 (by decide) ?_
    exact hk5 s0 _ _ _ _ hW (lv_sub hl [1, 0] rfl) h
  have blk32 : ∀ (k5 : Int32 → St → Prop) (hk5 : ∀ (x1 : Int32) (σ : St) (H : Heap) (locs : List Loc) (ls : Array Slot), xW D KA layR stR ad ids (xA ad ids s.heap.size) s.heap σ H locs → lv_has ls 3 [(0, .ref (ad 0)), (1, .int x1)] → k5 x1 σ → W p l e (rmgR (d + 1)) s m args below meth c H locs 0 0 Q (F0 m 5 ls []))  (σ : St) (H : Heap) (locs : List Loc) (ls : Array Slot), xW D KA layR stR ad ids (xA ad ids s.heap.size) s.heap σ H locs → lv_has ls 3 [(0, .ref (ad 0))] → wX12_either_32 rec k5 post  σ → W p l e (rmgR (d + 1)) s m args below meth c H locs 0 0 Q (F0 m 32 ls []) := by
    intro  k5 hk5  σ H locs ls hW hl h
    unfold wX12_either_32 at h
    refine lv_iconst (v := 1) hx hb dX12_either_32 (by decide) ?_
    refine lv_goto (tgt := 37) hx hb dX12_either_33 (by decide) ?_
    exact blk37  k5 hk5 (1 : Int32) _ _ _ _ hW (lv_sub hl [0] rfl) h
  have blk5 : ∀ (n : Nat) (x1 : Int32) (σ : St) (H : Heap) (locs : List Loc) (ls : Array Slot), xW D KA layR stR ad ids (xA ad ids s.heap.size) s.heap σ H locs → lv_has ls 3 [(0, .ref (ad 0)), (1, .int x1)] → wX12_either_5 rec post  n x1 σ → W p l e (rmgR (d + 1)) s m args below meth c H locs 0 0 Q (F0 m 5 ls []) := by
    intro    n
    induction n with
    | zero => intro x1 σ H locs ls hW hl h; exact (h : False).elim
    | succ n ih =>
      intro x1 σ H locs ls hW hl h
      have hk5 : ∀ (x1 : Int32) (σ : St) (H : Heap) (locs : List Loc) (ls : Array Slot), xW D KA layR stR ad ids (xA ad ids s.heap.size) s.heap σ H locs → lv_has ls 3 [(0, .ref (ad 0)), (1, .int x1)] → (wX12_either_5 rec post  n) x1 σ → W p l e (rmgR (d + 1)) s m args below meth c H locs 0 0 Q (F0 m 5 ls []) := fun x1 σ H locs ls hW hl h => ih x1 σ H locs ls hW hl h
      rw [wX12_either_5_s] at h
      try dsimp only at h
      generalize wX12_either_5 rec post  n = k5 at h hk5
      refine lv_aload_n hx hb dX12_either_5 rfl (lv_at hl 0 rfl) ?_
      refine lv_ldc2 hx hb hown (hts _ hwX12_either_0) dX12_either_6 ?_
      refine x_calli (va_runV (As := [.long (423 : Int64)]) (rest := []) ⟨hx, hb, hml, hown, hts⟩ (J_X12_isWord l hI h) (cwV 1 hts gX12_either_X12_isWord rfl rfl rfl hdV_X12_isWord ⟨rmgR_of d (Nat.le_of_ble_eq_true rfl), rmgR_ol d (Nat.le_of_ble_eq_true rfl)⟩) (x_preV (ci := 12) hK hZ hA hW (hI 0 (by decide)) lR_0 rfl) rfl rfl hl.1 rfl (lv_room (Nat.le_of_ble_eq_true rfl)) dX12_either_9 ⟨Nat.zero_le _, Nat.zero_le _⟩) hW hA (fun r2 σ1 H locs h hW => ?_)
      try dsimp only at h
      refine lv_if_eq (tgt := 41) hx hb dX12_either_12 (by decide) (fun c3 => ?_) (fun c3 => ?_)
      · have h := h.1 c3
        refine lv_iload_n hx hb dX12_either_41 rfl (lv_at hl 1 rfl) ?_
        exact kr _ _ _ _ _ _ hW h dX12_either_42
      · have h := h.2 c3
        refine lv_aload_n hx hb dX12_either_15 rfl (lv_at hl 0 rfl) ?_
        refine x_callv (va_runV (As := []) (rest := []) ⟨hx, hb, hml, hown, hts⟩ (J_X12_next l hI h) (cwV 0 hts gX12_either_X12_next rfl rfl rfl hdV_X12_next ⟨rmgR_of d (Nat.le_of_ble_eq_true rfl), rmgR_ol d (Nat.le_of_ble_eq_true rfl)⟩) (x_preV (ci := 12) hK hZ hA hW (hI 0 (by decide)) lR_0 rfl) rfl rfl hl.1 rfl (lv_room (Nat.le_of_ble_eq_true rfl)) dX12_either_16 ⟨Nat.zero_le _, Nat.zero_le _⟩) hW hA (fun σ4 H locs h hW => ?_)
        try dsimp only at h
        refine lv_aload_n hx hb dX12_either_19 rfl (lv_at hl 0 rfl) ?_
        refine x_calli (va_runV (As := []) (rest := []) ⟨hx, hb, hml, hown, hts⟩ (hrec1 h) (cwV 0 hts gX12_either_X12_both rfl rfl rfl hdV_X12_both ⟨rmgR_f d, rmgR_l d (Nat.le_of_ble_eq_true rfl)⟩) (x_preV (ci := 12) hK hZ hA hW (hI 0 (by decide)) lR_0 rfl) rfl rfl hl.1 rfl (lv_room (Nat.le_of_ble_eq_true rfl)) dX12_either_20 ⟨Nat.zero_le _, Nat.zero_le _⟩) hW hA (fun r6 σ5 H locs h hW => ?_)
        try dsimp only at h
        refine lv_istore_n (lv' := [(2, .int r6), (0, .ref (ad 0)), (1, .int x1)]) hx hb dX12_either_23 rfl hl (by decide) rfl (fun ls hl => ?_)
        refine lv_iload_n hx hb dX12_either_24 rfl (lv_at hl 2 rfl) ?_
        refine lv_if_ne (tgt := 32) hx hb dX12_either_25 (by decide) (fun c7 => ?_) (fun c7 => ?_)
        · have h := h.1 c7
          exact blk32  k5 hk5  _ _ _ _ hW (lv_sub hl [1] rfl) h
        · have h := h.2 c7
          refine lv_iload_n hx hb dX12_either_28 rfl (lv_at hl 0 rfl) ?_
          refine lv_if_eq (tgt := 36) hx hb dX12_either_29 (by decide) (fun c8 => ?_) (fun c8 => ?_)
          · have h := h.1 c8
            refine lv_iconst (v := 0) hx hb dX12_either_36 (by decide) ?_
            exact blk37  k5 hk5 (0 : Int32) _ _ _ _ hW (lv_sub hl [1] rfl) h
          · have h := h.2 c8
            exact blk32  k5 hk5  _ _ _ _ hW (lv_sub hl [1] rfl) h
  have main : ∀ (H : Heap) (locs : List Loc) (ls : Array Slot), xW D KA layR stR ad ids (xA ad ids s.heap.size) s.heap σ H locs → lv_has ls 3 [(0, .ref (ad 0))] → W p l e (rmgR (d + 1)) s m args below meth c H locs 0 0 Q (F0 m 0 ls []) := by
    intro H locs ls hW hl
    unfold wX12_either at h
    refine lv_aload_n hx hb dX12_either_0 rfl (lv_at hl 0 rfl) ?_
    refine x_calli (va_runV (As := []) (rest := []) ⟨hx, hb, hml, hown, hts⟩ (hrec1 h) (cwV 0 hts gX12_either_X12_both rfl rfl rfl hdV_X12_both ⟨rmgR_f d, rmgR_l d (Nat.le_of_ble_eq_true rfl)⟩) (x_preV (ci := 12) hK hZ hA hW (hI 0 (by decide)) lR_0 rfl) rfl rfl hl.1 rfl (lv_room (Nat.le_of_ble_eq_true rfl)) dX12_either_1 ⟨Nat.zero_le _, Nat.zero_le _⟩) hW hA (fun r1002 σ1001 H locs h hW => ?_)
    try dsimp only at h
    refine lv_istore_n (lv' := [(1, .int r1002), (0, .ref (ad 0))]) hx hb dX12_either_4 rfl hl (by decide) rfl (fun ls hl => ?_)
    obtain ⟨n, h⟩ := h
    exact blk5    n r1002 _ _ _ _ hW (lv_sub hl [1, 0] rfl) h
  exact main _ _ _ hW hl
theorem hwX12_fail_0 : (.fieldLink RX12 316 "FortyBeltsModel" "bad" "Z" : Cond) ∈ wsX12_fail := (List.mem_cons_of_mem _ (List.mem_append_left _ (List.mem_of_getElem? (i := 0) rfl)))
theorem hwX12_fail_1 : (.fieldLink RX12 290 "FortyBeltsModel" "tokenAt" "I" : Cond) ∈ wsX12_fail := (List.mem_cons_of_mem _ (List.mem_append_left _ (List.mem_of_getElem? (i := 1) rfl)))
theorem hwX12_fail_2 : (.fieldLink RX12 320 "FortyBeltsModel" "fault" "I" : Cond) ∈ wsX12_fail := (List.mem_cons_of_mem _ (List.mem_append_left _ (List.mem_of_getElem? (i := 2) rfl)))
theorem hcX12_fail_X12 : ∀ w ∈ wsX120, w ∈ wsX12_fail := fun _ h => (List.mem_cons_of_mem _ (List.mem_append_right _ h))
set_option maxHeartbeats 4000000 in
set_option maxRecDepth 100000 in
theorem J_X12_fail {D : va_G} {KA : Nat → ClassId} {zs : ZS} {ad : Nat → Nat} {ids : List Nat} {sz : Nat} (l : Launch) (hI : ∀ c, c < 35 → c ∈ ids)   {σ : St} {post : St → Prop} (h : wX12_fail   σ post) : Met l yX12_fail wsX12_fail rmX12_fail (va_Pc [.ref (ad 0)] (xIn D KA zs layR stR ad ids sz σ)) (va_Qv post (xOut D KA layR stR ad ids) (xA ad ids sz)) 0 0 (xA ad ids sz) := by
  refine Met.ofW (cc := cX12_fail) (maxL := 1) (ret := none) (by decide) rfl ?_
  intro p e s m args below meth c s₁ B hml hv
  obtain ⟨hav, hsz, hK, hZ, hP, hD⟩ := hv
  have hx := B.exec
  have hb := B.bytes
  have hr := B.returns
  have hts := atoms_spec (ws := wsX12_fail) B.pre
  have hown : s.vm.findClass RX12 = some m.cls := findClass_of_methodNamed B.named
  have hlocks := B.notSynchronized
  subst hsz
  have hA : ∀ q : Nat, s.heap.size ≤ q → xA ad ids s.heap.size q := fun q h => Or.inr h
  have hW : xW D KA layR stR ad ids (xA ad ids s.heap.size) s.heap σ s.heap [] := ⟨hP, xA_D (D := D) hD, va_S.rf⟩
  have kr : ∀ (σ : St) (H : Heap) (locs : List Loc) (ls : Array Slot) (pc : Nat), xW D KA layR stR ad ids (xA ad ids s.heap.size) s.heap σ H locs → post σ → decode cX12_fail pc = .ok (.return_, 1) → W p l e rmX12_fail s m args below meth c H locs 0 0 (MQ below (va_Qv post (xOut D KA layR stR ad ids) (xA ad ids s.heap.size)) args s 0 0 (xA ad ids s.heap.size)) (F0 m pc ls []) := fun σ H locs ls pc hW h hd => x_vret hx hb hr hlocks hW h hd
  have hl := lv_entry ([.ref (ad 0)]) (n := 1) (Nat.le_of_ble_eq_true rfl)
  rw [show entryFrame m args 1 = entryFrame m ([.ref (ad 0)] : List Value).toArray 1 from by rw [hav]]
  rw [lg_entry_eq]
  generalize (lg_sl ([.ref (ad 0)]) ++ List.replicate (1 - (lg_sl ([.ref (ad 0)])).length) Slot.unset).toArray = ls at hl ⊢
  have hl : lv_has ls 1 [(0, .ref (ad 0))] := hl
  show W p l e rmX12_fail s m args below meth c s.heap [] 0 0 _ _
  generalize MQ below (va_Qv post (xOut D KA layR stR ad ids) (xA ad ids s.heap.size)) args s 0 0 (xA ad ids s.heap.size) = Q at kr ⊢
  have blk20 : ∀ (σ : St) (H : Heap) (locs : List Loc) (ls : Array Slot), xW D KA layR stR ad ids (xA ad ids s.heap.size) s.heap σ H locs → lv_has ls 1 [] → wX12_fail_20 post  σ → W p l e rmX12_fail s m args below meth c H locs 0 0 Q (F0 m 20 ls []) := by
    intro    σ H locs ls hW hl h
    unfold wX12_fail_20 at h
    exact kr _ _ _ _ _ hW h dX12_fail_20
  have main : ∀ (H : Heap) (locs : List Loc) (ls : Array Slot), xW D KA layR stR ad ids (xA ad ids s.heap.size) s.heap σ H locs → lv_has ls 1 [(0, .ref (ad 0))] → W p l e rmX12_fail s m args below meth c H locs 0 0 Q (F0 m 0 ls []) := by
    intro H locs ls hW hl
    unfold wX12_fail at h
    refine lv_aload_n hx hb dX12_fail_0 rfl (lv_at hl 0 rfl) ?_
    refine xgX12_43 hx hb hts hown hK hW 0 hcX12_fail_X12 (hI 0 (by decide)) lR_0 (hts _ hwX12_fail_0) dX12_fail_1 ?_
    refine lv_if_ne (tgt := 20) hx hb dX12_fail_4 (by decide) (fun c1001 => ?_) (fun c1001 => ?_)
    · have h := h.1 c1001
      exact blk20    _ _ _ _ hW (lv_sub hl [] rfl) h
    · have h := h.2 c1001
      refine lv_aload_n hx hb dX12_fail_7 rfl (lv_at hl 0 rfl) ?_
      refine lv_iconst (v := 1) hx hb dX12_fail_8 (by decide) ?_
      refine xpX12_43 hx hb hts hown hK hW 0 hcX12_fail_X12 (hI 0 (by decide)) lR_0 (hts _ hwX12_fail_0) isB_1 dX12_fail_9 (fun σ1002 H locs hσ1002 hW => ?_)
      have h := h σ1002 hσ1002
      refine lv_aload_n hx hb dX12_fail_12 rfl (lv_at hl 0 rfl) ?_
      refine lv_aload_n hx hb dX12_fail_13 rfl (lv_at hl 0 rfl) ?_
      refine xgX12_39 hx hb hts hown hK hW 0 hcX12_fail_X12 (hI 0 (by decide)) lR_0 (hts _ hwX12_fail_1) dX12_fail_14 ?_
      refine xpX12_44 hx hb hts hown hK hW 0 hcX12_fail_X12 (hI 0 (by decide)) lR_0 (hts _ hwX12_fail_2) dX12_fail_17 (fun σ1003 H locs hσ1003 hW => ?_)
      have h := h σ1003 hσ1003
      exact blk20    _ _ _ _ hW (lv_sub hl [] rfl) h
  exact main _ _ _ hW hl
theorem hwX12_opens_0 : (.fieldLink RX12 323 "FortyBeltsModel" "open" "I" : Cond) ∈ wsX12_opens := (List.mem_cons_of_mem _ (List.mem_append_left _ (List.mem_append_left _ (List.mem_of_getElem? (i := 0) rfl))))
theorem hcX12_opens_X12 : ∀ w ∈ wsX120, w ∈ wsX12_opens := fun _ h => (List.mem_cons_of_mem _ (List.mem_append_right _ h))
set_option maxHeartbeats 4000000 in
set_option maxRecDepth 100000 in
theorem J_X12_opens {D : va_G} {KA : Nat → ClassId} {zs : ZS} {ad : Nat → Nat} {ids : List Nat} {sz : Nat} (l : Launch) (hI : ∀ c, c < 35 → c ∈ ids)   {σ : St} {post : Int32 → St → Prop} (h : wX12_opens   σ post) : Met l yX12_opens wsX12_opens rmX12_opens (va_Pc [.ref (ad 0)] (xIn D KA zs layR stR ad ids sz σ)) (va_Qi post (xOut D KA layR stR ad ids) (xA ad ids sz)) 0 0 (xA ad ids sz) := by
  refine Met.ofW (cc := cX12_opens) (maxL := 1) (ret := (some .boolean)) (by decide) rfl ?_
  intro p e s m args below meth c s₁ B hml hv
  obtain ⟨hav, hsz, hK, hZ, hP, hD⟩ := hv
  have hx := B.exec
  have hb := B.bytes
  have hr := B.returns
  have hts := atoms_spec (ws := wsX12_opens) B.pre
  have hown : s.vm.findClass RX12 = some m.cls := findClass_of_methodNamed B.named
  have hlocks := B.notSynchronized
  subst hsz
  have hA : ∀ q : Nat, s.heap.size ≤ q → xA ad ids s.heap.size q := fun q h => Or.inr h
  have hW : xW D KA layR stR ad ids (xA ad ids s.heap.size) s.heap σ s.heap [] := ⟨hP, xA_D (D := D) hD, va_S.rf⟩
  have kr : ∀ (v : Int32) (σ : St) (H : Heap) (locs : List Loc) (ls : Array Slot) (pc : Nat), xW D KA layR stR ad ids (xA ad ids s.heap.size) s.heap σ H locs → isB v → post v σ → decode cX12_opens pc = .ok (.ireturn, 1) → W p l e rmX12_opens s m args below meth c H locs 0 0 (MQ below (va_Qi post (xOut D KA layR stR ad ids) (xA ad ids s.heap.size)) args s 0 0 (xA ad ids s.heap.size)) (F0 m pc ls [.int v]) := fun v σ H locs ls pc hW hz h hd => x_zret hx hb hr hlocks hW hz h hd
  have hl := lv_entry ([.ref (ad 0)]) (n := 1) (Nat.le_of_ble_eq_true rfl)
  rw [show entryFrame m args 1 = entryFrame m ([.ref (ad 0)] : List Value).toArray 1 from by rw [hav]]
  rw [lg_entry_eq]
  generalize (lg_sl ([.ref (ad 0)]) ++ List.replicate (1 - (lg_sl ([.ref (ad 0)])).length) Slot.unset).toArray = ls at hl ⊢
  have hl : lv_has ls 1 [(0, .ref (ad 0))] := hl
  show W p l e rmX12_opens s m args below meth c s.heap [] 0 0 _ _
  generalize MQ below (va_Qi post (xOut D KA layR stR ad ids) (xA ad ids s.heap.size)) args s 0 0 (xA ad ids s.heap.size) = Q at kr ⊢
  have main : ∀ (H : Heap) (locs : List Loc) (ls : Array Slot), xW D KA layR stR ad ids (xA ad ids s.heap.size) s.heap σ H locs → lv_has ls 1 [(0, .ref (ad 0))] → W p l e rmX12_opens s m args below meth c H locs 0 0 Q (F0 m 0 ls []) := by
    intro H locs ls hW hl
    unfold wX12_opens at h
    refine lv_aload_n hx hb dX12_opens_0 rfl (lv_at hl 0 rfl) ?_
    refine xgX12_42 hx hb hts hown hK hW 0 hcX12_opens_X12 (hI 0 (by decide)) lR_0 (hts _ hwX12_opens_0) dX12_opens_1 ?_
    refine lv_iconst (v := 5) hx hb dX12_opens_4 (by decide) ?_
    refine lv_icmp_ne (tgt := 14) hx hb dX12_opens_5 (by decide) (fun c1001 => ?_) (fun c1001 => ?_)
    · have h := h.1 c1001
      refine lv_aload_n hx hb dX12_opens_14 rfl (lv_at hl 0 rfl) ?_
      refine lv_dup hx hb dX12_opens_15 rfl ?_
      refine xgX12_42 hx hb hts hown hK hW 0 hcX12_opens_X12 (hI 0 (by decide)) lR_0 (hts _ hwX12_opens_0) dX12_opens_16 ?_
      refine lv_iconst (v := 1) hx hb dX12_opens_19 (by decide) ?_
      refine lv_iadd hx hb dX12_opens_20 ?_
      refine xpX12_42 hx hb hts hown hK hW 0 hcX12_opens_X12 (hI 0 (by decide)) lR_0 (hts _ hwX12_opens_0) dX12_opens_21 (fun σ1002 H locs hσ1002 hW => ?_)
      have h := h σ1002 hσ1002
      refine lv_aload_n hx hb dX12_opens_24 rfl (lv_at hl 0 rfl) ?_
      refine x_callv (va_runV (As := []) (rest := []) ⟨hx, hb, hml, hown, hts⟩ (J_X12_next l hI h) (cwV 0 hts gX12_opens_X12_next rfl rfl rfl hdV_X12_next ⟨Nat.le_of_ble_eq_true rfl, Nat.le_of_ble_eq_true rfl⟩) (x_preV (ci := 12) hK hZ hA hW (hI 0 (by decide)) lR_0 rfl) rfl rfl hl.1 rfl (lv_room (Nat.le_of_ble_eq_true rfl)) dX12_opens_25 ⟨Nat.zero_le _, Nat.zero_le _⟩) hW hA (fun σ1003 H locs h hW => ?_)
      try dsimp only at h
      refine lv_iconst (v := 1) hx hb dX12_opens_28 (by decide) ?_
      exact kr _ _ _ _ _ _ hW isB_1 h dX12_opens_29
    · have h := h.2 c1001
      refine lv_aload_n hx hb dX12_opens_8 rfl (lv_at hl 0 rfl) ?_
      refine x_callv (va_runV (As := []) (rest := []) ⟨hx, hb, hml, hown, hts⟩ (J_X12_fail l hI h) (cwV 0 hts gX12_opens_X12_fail rfl rfl rfl hdV_X12_fail ⟨Nat.le_of_ble_eq_true rfl, Nat.le_of_ble_eq_true rfl⟩) (x_preV (ci := 12) hK hZ hA hW (hI 0 (by decide)) lR_0 rfl) rfl rfl hl.1 rfl (lv_room (Nat.le_of_ble_eq_true rfl)) dX12_opens_9 ⟨Nat.zero_le _, Nat.zero_le _⟩) hW hA (fun σ1004 H locs h hW => ?_)
      try dsimp only at h
      refine lv_iconst (v := 0) hx hb dX12_opens_12 (by decide) ?_
      exact kr _ _ _ _ _ _ hW isB_0 h dX12_opens_13
  exact main _ _ _ hW hl
theorem hwX12_not_0 : (.fieldLink RX12 300 "FortyBeltsModel" "tokenWorth" "J" : Cond) ∈ wsX12_not := (List.mem_cons_of_mem _ (List.mem_append_left _ (List.mem_append_left _ (List.mem_of_getElem? (i := 2) rfl))))
theorem hwX12_not_1 : (.constantLong RX12 395 (60) : Cond) ∈ wsX12_not := (List.mem_cons_of_mem _ (List.mem_append_left _ (List.mem_append_left _ (List.mem_of_getElem? (i := 3) rfl))))
theorem hwX12_not_2 : (.constantLong RX12 387 (10631) : Cond) ∈ wsX12_not := (List.mem_cons_of_mem _ (List.mem_append_left _ (List.mem_append_left _ (List.mem_of_getElem? (i := 0) rfl))))
theorem hwX12_not_3 : (.fieldLink RX12 323 "FortyBeltsModel" "open" "I" : Cond) ∈ wsX12_not := (List.mem_cons_of_mem _ (List.mem_append_left _ (List.mem_append_left _ (List.mem_of_getElem? (i := 1) rfl))))
theorem hcX12_not_X12 : ∀ w ∈ wsX120, w ∈ wsX12_not := fun _ h => (List.mem_cons_of_mem _ (List.mem_append_right _ h))
set_option maxHeartbeats 4000000 in
set_option maxRecDepth 100000 in
theorem JO_X12_not {D : va_G} {KA : Nat → ClassId} {zs : ZS} {ad : Nat → Nat} {ids : List Nat} {sz : Nat} (l : Launch) (hI : ∀ c, c < 35 → c ∈ ids) (d : Nat) {rec : Nat → St → (Int32 → St → Prop) → Prop} (hrec0 : ∀ {σ : St} {post : Int32 → St → Prop} {sz : Nat}, rec 0  σ post → Met l yX12_either wsX12_either (rmgR d) (va_Pc [.ref (ad 0)] (xIn D KA zs layR stR ad ids sz σ)) (va_Qi post (xOut D KA layR stR ad ids) (xA ad ids sz)) 0 0 (xA ad ids sz)) (hrec1 : ∀ {σ : St} {post : Int32 → St → Prop} {sz : Nat}, rec 1  σ post → Met l yX12_both wsX12_both (rmgR d) (va_Pc [.ref (ad 0)] (xIn D KA zs layR stR ad ids sz σ)) (va_Qi post (xOut D KA layR stR ad ids) (xA ad ids sz)) 0 0 (xA ad ids sz)) (hrec2 : ∀ {σ : St} {post : Int32 → St → Prop} {sz : Nat}, rec 2  σ post → Met l yX12_not wsX12_not (rmgR d) (va_Pc [.ref (ad 0)] (xIn D KA zs layR stR ad ids sz σ)) (va_Qi post (xOut D KA layR stR ad ids) (xA ad ids sz)) 0 0 (xA ad ids sz)) (hrec3 : ∀ {σ : St} {post : Int32 → St → Prop} {sz : Nat}, rec 3  σ post → Met l yX12_added wsX12_added (rmgR d) (va_Pc [.ref (ad 0)] (xIn D KA zs layR stR ad ids sz σ)) (va_Qi post (xOut D KA layR stR ad ids) (xA ad ids sz)) 0 0 (xA ad ids sz)) (hrec4 : ∀ {σ : St} {post : Int32 → St → Prop} {sz : Nat}, rec 4  σ post → Met l yX12_term wsX12_term (rmgR d) (va_Pc [.ref (ad 0)] (xIn D KA zs layR stR ad ids sz σ)) (va_Qi post (xOut D KA layR stR ad ids) (xA ad ids sz)) 0 0 (xA ad ids sz)) (hrec5 : ∀ {σ : St} {post : Int32 → St → Prop} {sz : Nat}, rec 5  σ post → Met l yX12_one wsX12_one (rmgR d) (va_Pc [.ref (ad 0)] (xIn D KA zs layR stR ad ids sz σ)) (va_Qi post (xOut D KA layR stR ad ids) (xA ad ids sz)) 0 0 (xA ad ids sz))   {σ : St} {post : Int32 → St → Prop} (h : wX12_not rec  σ post) : Met l yX12_not wsX12_not (rmgR (d + 1)) (va_Pc [.ref (ad 0)] (xIn D KA zs layR stR ad ids sz σ)) (va_Qi post (xOut D KA layR stR ad ids) (xA ad ids sz)) 0 0 (xA ad ids sz) := by
  refine Met.ofW (cc := cX12_not) (maxL := 4) (ret := (some .int)) (by decide) rfl ?_
  intro p e s m args below meth c s₁ B hml hv
  obtain ⟨hav, hsz, hK, hZ, hP, hD⟩ := hv
  have hx := B.exec
  have hb := B.bytes
  have hr := B.returns
  have hts := atoms_spec (ws := wsX12_not) B.pre
  have hown : s.vm.findClass RX12 = some m.cls := findClass_of_methodNamed B.named
  have hlocks := B.notSynchronized
  subst hsz
  have hA : ∀ q : Nat, s.heap.size ≤ q → xA ad ids s.heap.size q := fun q h => Or.inr h
  have hW : xW D KA layR stR ad ids (xA ad ids s.heap.size) s.heap σ s.heap [] := ⟨hP, xA_D (D := D) hD, va_S.rf⟩
  have kr : ∀ (v : Int32) (σ : St) (H : Heap) (locs : List Loc) (ls : Array Slot) (pc : Nat), xW D KA layR stR ad ids (xA ad ids s.heap.size) s.heap σ H locs → post v σ → decode cX12_not pc = .ok (.ireturn, 1) → W p l e (rmgR (d + 1)) s m args below meth c H locs 0 0 (MQ below (va_Qi post (xOut D KA layR stR ad ids) (xA ad ids s.heap.size)) args s 0 0 (xA ad ids s.heap.size)) (F0 m pc ls [.int v]) := fun v σ H locs ls pc hW h hd => x_iret hx hb hr hlocks hW h hd
  have hl := lv_entry ([.ref (ad 0)]) (n := 4) (Nat.le_of_ble_eq_true rfl)
  rw [show entryFrame m args 4 = entryFrame m ([.ref (ad 0)] : List Value).toArray 4 from by rw [hav]]
  rw [lg_entry_eq]
  generalize (lg_sl ([.ref (ad 0)]) ++ List.replicate (4 - (lg_sl ([.ref (ad 0)])).length) Slot.unset).toArray = ls at hl ⊢
  have hl : lv_has ls 4 [(0, .ref (ad 0))] := hl
  show W p l e (rmgR (d + 1)) s m args below meth c s.heap [] 0 0 _ _
  generalize MQ below (va_Qi post (xOut D KA layR stR ad ids) (xA ad ids s.heap.size)) args s 0 0 (xA ad ids s.heap.size) = Q at kr ⊢
  have blk117 : ∀ (s0 : Int32) (σ : St) (H : Heap) (locs : List Loc) (ls : Array Slot), xW D KA layR stR ad ids (xA ad ids s.heap.size) s.heap σ H locs → lv_has ls 4 [] → wX12_not_117 rec post s0 σ → W p l e (rmgR (d + 1)) s m args below meth c H locs 0 0 Q (F0 m 117 ls [.int s0]) := by
    intro   s0 σ H locs ls hW hl h
    unfold wX12_not_117 at h
    exact kr _ _ _ _ _ _ hW h dX12_not_117
  have blk116 : ∀ (σ : St) (H : Heap) (locs : List Loc) (ls : Array Slot), xW D KA layR stR ad ids (xA ad ids s.heap.size) s.heap σ H locs → lv_has ls 4 [] → wX12_not_116 rec post  σ → W p l e (rmgR (d + 1)) s m args below meth c H locs 0 0 Q (F0 m 116 ls []) := by
    intro    σ H locs ls hW hl h
    unfold wX12_not_116 at h
    refine lv_iconst (v := 0) hx hb dX12_not_116 (by decide) ?_
    exact blk117   (0 : Int32) _ _ _ _ hW (lv_sub hl [] rfl) h
  have blk112 : ∀ (σ : St) (H : Heap) (locs : List Loc) (ls : Array Slot), xW D KA layR stR ad ids (xA ad ids s.heap.size) s.heap σ H locs → lv_has ls 4 [] → wX12_not_112 rec post  σ → W p l e (rmgR (d + 1)) s m args below meth c H locs 0 0 Q (F0 m 112 ls []) := by
    intro    σ H locs ls hW hl h
    unfold wX12_not_112 at h
    refine lv_iconst (v := 1) hx hb dX12_not_112 (by decide) ?_
    refine lv_goto (tgt := 117) hx hb dX12_not_113 (by decide) ?_
    exact blk117   (1 : Int32) _ _ _ _ hW (lv_sub hl [] rfl) h
  have blk85 : ∀ (x1 : Int32) (s0 : Int32) (σ : St) (H : Heap) (locs : List Loc) (ls : Array Slot), xW D KA layR stR ad ids (xA ad ids s.heap.size) s.heap σ H locs → lv_has ls 4 [(0, .ref (ad 0)), (1, .int x1)] → wX12_not_85 rec post x1 s0 σ → W p l e (rmgR (d + 1)) s m args below meth c H locs 0 0 Q (F0 m 85 ls [.int s0]) := by
    intro   x1 s0 σ H locs ls hW hl h
    unfold wX12_not_85 at h
    refine lv_istore_n (lv' := [(2, .int s0), (0, .ref (ad 0)), (1, .int x1)]) hx hb dX12_not_85 rfl hl (by decide) rfl (fun ls hl => ?_)
    refine lv_aload_n hx hb dX12_not_86 rfl (lv_at hl 1 rfl) ?_
    refine x_callv (va_runV (As := []) (rest := []) ⟨hx, hb, hml, hown, hts⟩ (J_X12_next l hI h) (cwV 0 hts gX12_not_X12_next rfl rfl rfl hdV_X12_next ⟨rmgR_of d (Nat.le_of_ble_eq_true rfl), rmgR_ol d (Nat.le_of_ble_eq_true rfl)⟩) (x_preV (ci := 12) hK hZ hA hW (hI 0 (by decide)) lR_0 rfl) rfl rfl hl.1 rfl (lv_room (Nat.le_of_ble_eq_true rfl)) dX12_not_87 ⟨Nat.zero_le _, Nat.zero_le _⟩) hW hA (fun σ1 H locs h hW => ?_)
    try dsimp only at h
    refine lv_aload_n hx hb dX12_not_90 rfl (lv_at hl 1 rfl) ?_
    refine x_calli (va_runV (As := []) (rest := []) ⟨hx, hb, hml, hown, hts⟩ (hrec3 h) (cwV 0 hts gX12_not_X12_added rfl rfl rfl hdV_X12_added ⟨rmgR_f d, rmgR_l d (Nat.le_of_ble_eq_true rfl)⟩) (x_preV (ci := 12) hK hZ hA hW (hI 0 (by decide)) lR_0 rfl) rfl rfl hl.1 rfl (lv_room (Nat.le_of_ble_eq_true rfl)) dX12_not_91 ⟨Nat.zero_le _, Nat.zero_le _⟩) hW hA (fun r3 σ2 H locs h hW => ?_)
    try dsimp only at h
    refine lv_istore_n (lv' := [(3, .int r3), (2, .int s0), (0, .ref (ad 0)), (1, .int x1)]) hx hb dX12_not_94 rfl hl (by decide) rfl (fun ls hl => ?_)
    refine lv_iload_n hx hb dX12_not_95 rfl (lv_at hl 1 rfl) ?_
    refine lv_if_eq (tgt := 107) hx hb dX12_not_96 (by decide) (fun c4 => ?_) (fun c4 => ?_)
    · have h := h.1 c4
      refine lv_iload_n hx hb dX12_not_107 rfl (lv_at hl 3 rfl) ?_
      refine lv_iload_n hx hb dX12_not_108 rfl (lv_at hl 0 rfl) ?_
      refine lv_icmp_ne (tgt := 116) hx hb dX12_not_109 (by decide) (fun c5 => ?_) (fun c5 => ?_)
      · have h := h.1 c5
        exact blk116    _ _ _ _ hW (lv_sub hl [] rfl) h
      · have h := h.2 c5
        exact blk112    _ _ _ _ hW (lv_sub hl [] rfl) h
    · have h := h.2 c4
      refine lv_iload_n hx hb dX12_not_99 rfl (lv_at hl 3 rfl) ?_
      refine lv_iload_n hx hb dX12_not_100 rfl (lv_at hl 0 rfl) ?_
      refine lv_icmp_ge (tgt := 116) hx hb dX12_not_101 (by decide) (fun c6 => ?_) (fun c6 => ?_)
      · have h := h.1 c6
        exact blk116    _ _ _ _ hW (lv_sub hl [] rfl) h
      · have h := h.2 c6
        refine lv_goto (tgt := 112) hx hb dX12_not_104 (by decide) ?_
        exact blk112    _ _ _ _ hW (lv_sub hl [] rfl) h
  have blk69 : ∀ (x1 : Int32) (σ : St) (H : Heap) (locs : List Loc) (ls : Array Slot), xW D KA layR stR ad ids (xA ad ids s.heap.size) s.heap σ H locs → lv_has ls 4 [(0, .ref (ad 0)), (1, .int x1)] → wX12_not_69 rec post x1 σ → W p l e (rmgR (d + 1)) s m args below meth c H locs 0 0 Q (F0 m 69 ls []) := by
    intro   x1 σ H locs ls hW hl h
    unfold wX12_not_69 at h
    refine lv_aload_n hx hb dX12_not_69 rfl (lv_at hl 0 rfl) ?_
    refine xgX12_40 hx hb hts hown hK hW 0 hcX12_not_X12 (hI 0 (by decide)) lR_0 (hts _ hwX12_not_0) dX12_not_70 ?_
    refine lv_ldc2 hx hb hown (hts _ hwX12_not_1) dX12_not_73 ?_
    refine W.lcmp hx hb dX12_not_76 ?_
    refine lv_if_ne (tgt := 84) hx hb dX12_not_77 (by decide) (fun c7 => ?_) (fun c7 => ?_)
    · have h := h.1 c7
      refine lv_iconst (v := 0) hx hb dX12_not_84 (by decide) ?_
      exact blk85   x1 (0 : Int32) _ _ _ _ hW (lv_sub hl [0, 1] rfl) h
    · have h := h.2 c7
      refine lv_iconst (v := 1) hx hb dX12_not_80 (by decide) ?_
      refine lv_goto (tgt := 85) hx hb dX12_not_81 (by decide) ?_
      exact blk85   x1 (1 : Int32) _ _ _ _ hW (lv_sub hl [0, 1] rfl) h
  have blk43 : ∀ (s0 : Int32) (σ : St) (H : Heap) (locs : List Loc) (ls : Array Slot), xW D KA layR stR ad ids (xA ad ids s.heap.size) s.heap σ H locs → lv_has ls 4 [] → wX12_not_43 rec post s0 σ → W p l e (rmgR (d + 1)) s m args below meth c H locs 0 0 Q (F0 m 43 ls [.int s0]) := by
    intro   s0 σ H locs ls hW hl h
    unfold wX12_not_43 at h
    exact kr _ _ _ _ _ _ hW h dX12_not_43
  have main : ∀ (H : Heap) (locs : List Loc) (ls : Array Slot), xW D KA layR stR ad ids (xA ad ids s.heap.size) s.heap σ H locs → lv_has ls 4 [(0, .ref (ad 0))] → W p l e (rmgR (d + 1)) s m args below meth c H locs 0 0 Q (F0 m 0 ls []) := by
    intro H locs ls hW hl
    unfold wX12_not at h
    refine lv_aload_n hx hb dX12_not_0 rfl (lv_at hl 0 rfl) ?_
    refine lv_ldc2 hx hb hown (hts _ hwX12_not_2) dX12_not_1 ?_
    refine x_calli (va_runV (As := [.long (10631 : Int64)]) (rest := []) ⟨hx, hb, hml, hown, hts⟩ (J_X12_isWord l hI h) (cwV 1 hts gX12_not_X12_isWord rfl rfl rfl hdV_X12_isWord ⟨rmgR_of d (Nat.le_of_ble_eq_true rfl), rmgR_ol d (Nat.le_of_ble_eq_true rfl)⟩) (x_preV (ci := 12) hK hZ hA hW (hI 0 (by decide)) lR_0 rfl) rfl rfl hl.1 rfl (lv_room (Nat.le_of_ble_eq_true rfl)) dX12_not_4 ⟨Nat.zero_le _, Nat.zero_le _⟩) hW hA (fun r1002 σ1001 H locs h hW => ?_)
    try dsimp only at h
    refine lv_if_eq (tgt := 44) hx hb dX12_not_7 (by decide) (fun c1003 => ?_) (fun c1003 => ?_)
    · have h := h.1 c1003
      refine lv_aload_n hx hb dX12_not_44 rfl (lv_at hl 0 rfl) ?_
      refine x_calli (va_runV (As := []) (rest := []) ⟨hx, hb, hml, hown, hts⟩ (hrec3 h) (cwV 0 hts gX12_not_X12_added rfl rfl rfl hdV_X12_added ⟨rmgR_f d, rmgR_l d (Nat.le_of_ble_eq_true rfl)⟩) (x_preV (ci := 12) hK hZ hA hW (hI 0 (by decide)) lR_0 rfl) rfl rfl hl.1 rfl (lv_room (Nat.le_of_ble_eq_true rfl)) dX12_not_45 ⟨Nat.zero_le _, Nat.zero_le _⟩) hW hA (fun r1005 σ1004 H locs h hW => ?_)
      try dsimp only at h
      refine lv_istore_n (lv' := [(1, .int r1005), (0, .ref (ad 0))]) hx hb dX12_not_48 rfl hl (by decide) rfl (fun ls hl => ?_)
      refine lv_aload_n hx hb dX12_not_49 rfl (lv_at hl 1 rfl) ?_
      refine lv_bipush (v := 60) hx hb dX12_not_50 (by decide) ?_
      refine x_calli (va_runV (As := [.int (60 : Int32)]) (rest := []) ⟨hx, hb, hml, hown, hts⟩ (J_X12_isSign l hI h) (cwV 1 hts gX12_not_X12_isSign rfl rfl rfl hdV_X12_isSign ⟨rmgR_of d (Nat.le_of_ble_eq_true rfl), rmgR_ol d (Nat.le_of_ble_eq_true rfl)⟩) (x_preV (ci := 12) hK hZ hA hW (hI 0 (by decide)) lR_0 rfl) rfl rfl hl.1 rfl (lv_room (Nat.le_of_ble_eq_true rfl)) dX12_not_52 ⟨Nat.zero_le _, Nat.zero_le _⟩) hW hA (fun r1007 σ1006 H locs h hW => ?_)
      try dsimp only at h
      refine lv_if_ne (tgt := 69) hx hb dX12_not_55 (by decide) (fun c1008 => ?_) (fun c1008 => ?_)
      · have h := h.1 c1008
        exact blk69   r1005 _ _ _ _ hW (lv_sub hl [1, 0] rfl) h
      · have h := h.2 c1008
        refine lv_aload_n hx hb dX12_not_58 rfl (lv_at hl 1 rfl) ?_
        refine lv_bipush (v := 61) hx hb dX12_not_59 (by decide) ?_
        refine x_calli (va_runV (As := [.int (61 : Int32)]) (rest := []) ⟨hx, hb, hml, hown, hts⟩ (J_X12_isSign l hI h) (cwV 1 hts gX12_not_X12_isSign rfl rfl rfl hdV_X12_isSign ⟨rmgR_of d (Nat.le_of_ble_eq_true rfl), rmgR_ol d (Nat.le_of_ble_eq_true rfl)⟩) (x_preV (ci := 12) hK hZ hA hW (hI 0 (by decide)) lR_0 rfl) rfl rfl hl.1 rfl (lv_room (Nat.le_of_ble_eq_true rfl)) dX12_not_61 ⟨Nat.zero_le _, Nat.zero_le _⟩) hW hA (fun r1010 σ1009 H locs h hW => ?_)
        try dsimp only at h
        refine lv_if_ne (tgt := 69) hx hb dX12_not_64 (by decide) (fun c1011 => ?_) (fun c1011 => ?_)
        · have h := h.1 c1011
          exact blk69   r1005 _ _ _ _ hW (lv_sub hl [1, 0] rfl) h
        · have h := h.2 c1011
          refine lv_iload_n hx hb dX12_not_67 rfl (lv_at hl 0 rfl) ?_
          exact kr _ _ _ _ _ _ hW h dX12_not_68
    · have h := h.2 c1003
      refine lv_aload_n hx hb dX12_not_10 rfl (lv_at hl 0 rfl) ?_
      refine x_calli (va_runV (As := []) (rest := []) ⟨hx, hb, hml, hown, hts⟩ (J_X12_opens l hI h) (cwV 0 hts gX12_not_X12_opens rfl rfl rfl hdV_X12_opens ⟨rmgR_of d (Nat.le_of_ble_eq_true rfl), rmgR_ol d (Nat.le_of_ble_eq_true rfl)⟩) (x_preV (ci := 12) hK hZ hA hW (hI 0 (by decide)) lR_0 rfl) rfl rfl hl.1 rfl (lv_room (Nat.le_of_ble_eq_true rfl)) dX12_not_11 ⟨Nat.zero_le _, Nat.zero_le _⟩) hW hA (fun r1013 σ1012 H locs h hW => ?_)
      try dsimp only at h
      refine lv_if_ne (tgt := 19) hx hb dX12_not_14 (by decide) (fun c1014 => ?_) (fun c1014 => ?_)
      · have h := h.1 c1014
        refine lv_aload_n hx hb dX12_not_19 rfl (lv_at hl 0 rfl) ?_
        refine x_calli (va_runV (As := []) (rest := []) ⟨hx, hb, hml, hown, hts⟩ (hrec2 h) (cwV 0 hts gX12_not_X12_not rfl rfl rfl hdV_X12_not ⟨rmgR_f d, rmgR_l d (Nat.le_of_ble_eq_true rfl)⟩) (x_preV (ci := 12) hK hZ hA hW (hI 0 (by decide)) lR_0 rfl) rfl rfl hl.1 rfl (lv_room (Nat.le_of_ble_eq_true rfl)) dX12_not_20 ⟨Nat.zero_le _, Nat.zero_le _⟩) hW hA (fun r1016 σ1015 H locs h hW => ?_)
        try dsimp only at h
        refine lv_istore_n (lv' := [(1, .int r1016), (0, .ref (ad 0))]) hx hb dX12_not_23 rfl hl (by decide) rfl (fun ls hl => ?_)
        refine lv_aload_n hx hb dX12_not_24 rfl (lv_at hl 1 rfl) ?_
        refine lv_dup hx hb dX12_not_25 rfl ?_
        refine xgX12_42 hx hb hts hown hK hW 0 hcX12_not_X12 (hI 0 (by decide)) lR_0 (hts _ hwX12_not_3) dX12_not_26 ?_
        refine lv_iconst (v := 1) hx hb dX12_not_29 (by decide) ?_
        refine lv_isub hx hb dX12_not_30 ?_
        refine xpX12_42 hx hb hts hown hK hW 0 hcX12_not_X12 (hI 0 (by decide)) lR_0 (hts _ hwX12_not_3) dX12_not_31 (fun σ1017 H locs hσ1017 hW => ?_)
        have h := h σ1017 hσ1017
        refine lv_iload_n hx hb dX12_not_34 rfl (lv_at hl 0 rfl) ?_
        refine lv_if_ne (tgt := 42) hx hb dX12_not_35 (by decide) (fun c1018 => ?_) (fun c1018 => ?_)
        · have h := h.1 c1018
          refine lv_iconst (v := 0) hx hb dX12_not_42 (by decide) ?_
          exact blk43   (0 : Int32) _ _ _ _ hW (lv_sub hl [] rfl) h
        · have h := h.2 c1018
          refine lv_iconst (v := 1) hx hb dX12_not_38 (by decide) ?_
          refine lv_goto (tgt := 43) hx hb dX12_not_39 (by decide) ?_
          exact blk43   (1 : Int32) _ _ _ _ hW (lv_sub hl [] rfl) h
      · have h := h.2 c1014
        refine lv_iconst (v := 0) hx hb dX12_not_17 (by decide) ?_
        exact kr _ _ _ _ _ _ hW h dX12_not_18
  exact main _ _ _ hW hl
theorem hwX12_name_0 : (.constantLong RX12 332 (223456) : Cond) ∈ wsX12_name := (List.mem_cons_of_mem _ (List.mem_append_left _ (List.mem_append_left _ (List.mem_of_getElem? (i := 0) rfl))))
theorem hwX12_name_1 : (.constantLong RX12 341 (11055682) : Cond) ∈ wsX12_name := (List.mem_cons_of_mem _ (List.mem_append_left _ (List.mem_append_left _ (List.mem_of_getElem? (i := 2) rfl))))
theorem hwX12_name_2 : (.constantLong RX12 346 (465874) : Cond) ∈ wsX12_name := (List.mem_cons_of_mem _ (List.mem_append_left _ (List.mem_append_left _ (List.mem_of_getElem? (i := 4) rfl))))
theorem hwX12_name_3 : (.constantLong RX12 351 (247162) : Cond) ∈ wsX12_name := (List.mem_cons_of_mem _ (List.mem_append_left _ (List.mem_append_left _ (List.mem_of_getElem? (i := 6) rfl))))
theorem hwX12_name_4 : (.constantLong RX12 356 (381245) : Cond) ∈ wsX12_name := (List.mem_cons_of_mem _ (List.mem_append_left _ (List.mem_append_left _ (List.mem_of_getElem? (i := 8) rfl))))
theorem hwX12_name_5 : (.constantLong RX12 361 (4562587) : Cond) ∈ wsX12_name := (List.mem_cons_of_mem _ (List.mem_append_left _ (List.mem_append_left _ (List.mem_of_getElem? (i := 10) rfl))))
theorem hwX12_name_6 : (.fieldLink RX12 363 "FortyBeltsModel" "aboutHours" "I" : Cond) ∈ wsX12_name := (List.mem_cons_of_mem _ (List.mem_append_left _ (List.mem_append_left _ (List.mem_of_getElem? (i := 11) rfl))))
theorem hwX12_name_7 : (.fieldLink RX12 358 "FortyBeltsModel" "aboutSize" "I" : Cond) ∈ wsX12_name := (List.mem_cons_of_mem _ (List.mem_append_left _ (List.mem_append_left _ (List.mem_of_getElem? (i := 9) rfl))))
theorem hwX12_name_8 : (.fieldLink RX12 353 "FortyBeltsModel" "aboutLoad" "I" : Cond) ∈ wsX12_name := (List.mem_cons_of_mem _ (List.mem_append_left _ (List.mem_append_left _ (List.mem_of_getElem? (i := 7) rfl))))
theorem hwX12_name_9 : (.fieldLink RX12 348 "FortyBeltsModel" "aboutWrap" "I" : Cond) ∈ wsX12_name := (List.mem_cons_of_mem _ (List.mem_append_left _ (List.mem_append_left _ (List.mem_of_getElem? (i := 5) rfl))))
theorem hwX12_name_10 : (.fieldLink RX12 343 "FortyBeltsModel" "aboutTurns" "I" : Cond) ∈ wsX12_name := (List.mem_cons_of_mem _ (List.mem_append_left _ (List.mem_append_left _ (List.mem_of_getElem? (i := 3) rfl))))
theorem hwX12_name_11 : (.fieldLink RX12 338 "FortyBeltsModel" "aboutKind" "I" : Cond) ∈ wsX12_name := (List.mem_cons_of_mem _ (List.mem_append_left _ (List.mem_append_left _ (List.mem_of_getElem? (i := 1) rfl))))
theorem hcX12_name_X12 : ∀ w ∈ wsX120, w ∈ wsX12_name := fun _ h => (List.mem_cons_of_mem _ (List.mem_append_right _ h))
set_option maxHeartbeats 4000000 in
set_option maxRecDepth 100000 in
theorem J_X12_name {D : va_G} {KA : Nat → ClassId} {zs : ZS} {ad : Nat → Nat} {ids : List Nat} {sz : Nat} (l : Launch) (hI : ∀ c, c < 35 → c ∈ ids)   {σ : St} {post : Int32 → St → Prop} (h : wX12_name   σ post) : Met l yX12_name wsX12_name rmX12_name (va_Pc [.ref (ad 0)] (xIn D KA zs layR stR ad ids sz σ)) (va_Qi post (xOut D KA layR stR ad ids) (xA ad ids sz)) 0 0 (xA ad ids sz) := by
  refine Met.ofW (cc := cX12_name) (maxL := 1) (ret := (some .int)) (by decide) rfl ?_
  intro p e s m args below meth c s₁ B hml hv
  obtain ⟨hav, hsz, hK, hZ, hP, hD⟩ := hv
  have hx := B.exec
  have hb := B.bytes
  have hr := B.returns
  have hts := atoms_spec (ws := wsX12_name) B.pre
  have hown : s.vm.findClass RX12 = some m.cls := findClass_of_methodNamed B.named
  have hlocks := B.notSynchronized
  subst hsz
  have hA : ∀ q : Nat, s.heap.size ≤ q → xA ad ids s.heap.size q := fun q h => Or.inr h
  have hW : xW D KA layR stR ad ids (xA ad ids s.heap.size) s.heap σ s.heap [] := ⟨hP, xA_D (D := D) hD, va_S.rf⟩
  have kr : ∀ (v : Int32) (σ : St) (H : Heap) (locs : List Loc) (ls : Array Slot) (pc : Nat), xW D KA layR stR ad ids (xA ad ids s.heap.size) s.heap σ H locs → post v σ → decode cX12_name pc = .ok (.ireturn, 1) → W p l e rmX12_name s m args below meth c H locs 0 0 (MQ below (va_Qi post (xOut D KA layR stR ad ids) (xA ad ids s.heap.size)) args s 0 0 (xA ad ids s.heap.size)) (F0 m pc ls [.int v]) := fun v σ H locs ls pc hW h hd => x_iret hx hb hr hlocks hW h hd
  have hl := lv_entry ([.ref (ad 0)]) (n := 1) (Nat.le_of_ble_eq_true rfl)
  rw [show entryFrame m args 1 = entryFrame m ([.ref (ad 0)] : List Value).toArray 1 from by rw [hav]]
  rw [lg_entry_eq]
  generalize (lg_sl ([.ref (ad 0)]) ++ List.replicate (1 - (lg_sl ([.ref (ad 0)])).length) Slot.unset).toArray = ls at hl ⊢
  have hl : lv_has ls 1 [(0, .ref (ad 0))] := hl
  show W p l e rmX12_name s m args below meth c s.heap [] 0 0 _ _
  generalize MQ below (va_Qi post (xOut D KA layR stR ad ids) (xA ad ids s.heap.size)) args s 0 0 (xA ad ids s.heap.size) = Q at kr ⊢
  have main : ∀ (H : Heap) (locs : List Loc) (ls : Array Slot), xW D KA layR stR ad ids (xA ad ids s.heap.size) s.heap σ H locs → lv_has ls 1 [(0, .ref (ad 0))] → W p l e rmX12_name s m args below meth c H locs 0 0 Q (F0 m 0 ls []) := by
    intro H locs ls hW hl
    unfold wX12_name at h
    refine lv_aload_n hx hb dX12_name_0 rfl (lv_at hl 0 rfl) ?_
    refine lv_ldc2 hx hb hown (hts _ hwX12_name_0) dX12_name_1 ?_
    refine x_calli (va_runV (As := [.long (223456 : Int64)]) (rest := []) ⟨hx, hb, hml, hown, hts⟩ (J_X12_isWord l hI h) (cwV 1 hts gX12_name_X12_isWord rfl rfl rfl hdV_X12_isWord ⟨Nat.le_of_ble_eq_true rfl, Nat.le_of_ble_eq_true rfl⟩) (x_preV (ci := 12) hK hZ hA hW (hI 0 (by decide)) lR_0 rfl) rfl rfl hl.1 rfl (lv_room (Nat.le_of_ble_eq_true rfl)) dX12_name_4 ⟨Nat.zero_le _, Nat.zero_le _⟩) hW hA (fun r1002 σ1001 H locs h hW => ?_)
    try dsimp only at h
    refine lv_if_eq (tgt := 15) hx hb dX12_name_7 (by decide) (fun c1003 => ?_) (fun c1003 => ?_)
    · have h := h.1 c1003
      refine lv_aload_n hx hb dX12_name_15 rfl (lv_at hl 0 rfl) ?_
      refine lv_ldc2 hx hb hown (hts _ hwX12_name_1) dX12_name_16 ?_
      refine x_calli (va_runV (As := [.long (11055682 : Int64)]) (rest := []) ⟨hx, hb, hml, hown, hts⟩ (J_X12_isWord l hI h) (cwV 1 hts gX12_name_X12_isWord rfl rfl rfl hdV_X12_isWord ⟨Nat.le_of_ble_eq_true rfl, Nat.le_of_ble_eq_true rfl⟩) (x_preV (ci := 12) hK hZ hA hW (hI 0 (by decide)) lR_0 rfl) rfl rfl hl.1 rfl (lv_room (Nat.le_of_ble_eq_true rfl)) dX12_name_19 ⟨Nat.zero_le _, Nat.zero_le _⟩) hW hA (fun r1005 σ1004 H locs h hW => ?_)
      try dsimp only at h
      refine lv_if_eq (tgt := 30) hx hb dX12_name_22 (by decide) (fun c1006 => ?_) (fun c1006 => ?_)
      · have h := h.1 c1006
        refine lv_aload_n hx hb dX12_name_30 rfl (lv_at hl 0 rfl) ?_
        refine lv_ldc2 hx hb hown (hts _ hwX12_name_2) dX12_name_31 ?_
        refine x_calli (va_runV (As := [.long (465874 : Int64)]) (rest := []) ⟨hx, hb, hml, hown, hts⟩ (J_X12_isWord l hI h) (cwV 1 hts gX12_name_X12_isWord rfl rfl rfl hdV_X12_isWord ⟨Nat.le_of_ble_eq_true rfl, Nat.le_of_ble_eq_true rfl⟩) (x_preV (ci := 12) hK hZ hA hW (hI 0 (by decide)) lR_0 rfl) rfl rfl hl.1 rfl (lv_room (Nat.le_of_ble_eq_true rfl)) dX12_name_34 ⟨Nat.zero_le _, Nat.zero_le _⟩) hW hA (fun r1008 σ1007 H locs h hW => ?_)
        try dsimp only at h
        refine lv_if_eq (tgt := 45) hx hb dX12_name_37 (by decide) (fun c1009 => ?_) (fun c1009 => ?_)
        · have h := h.1 c1009
          refine lv_aload_n hx hb dX12_name_45 rfl (lv_at hl 0 rfl) ?_
          refine lv_ldc2 hx hb hown (hts _ hwX12_name_3) dX12_name_46 ?_
          refine x_calli (va_runV (As := [.long (247162 : Int64)]) (rest := []) ⟨hx, hb, hml, hown, hts⟩ (J_X12_isWord l hI h) (cwV 1 hts gX12_name_X12_isWord rfl rfl rfl hdV_X12_isWord ⟨Nat.le_of_ble_eq_true rfl, Nat.le_of_ble_eq_true rfl⟩) (x_preV (ci := 12) hK hZ hA hW (hI 0 (by decide)) lR_0 rfl) rfl rfl hl.1 rfl (lv_room (Nat.le_of_ble_eq_true rfl)) dX12_name_49 ⟨Nat.zero_le _, Nat.zero_le _⟩) hW hA (fun r1011 σ1010 H locs h hW => ?_)
          try dsimp only at h
          refine lv_if_eq (tgt := 60) hx hb dX12_name_52 (by decide) (fun c1012 => ?_) (fun c1012 => ?_)
          · have h := h.1 c1012
            refine lv_aload_n hx hb dX12_name_60 rfl (lv_at hl 0 rfl) ?_
            refine lv_ldc2 hx hb hown (hts _ hwX12_name_4) dX12_name_61 ?_
            refine x_calli (va_runV (As := [.long (381245 : Int64)]) (rest := []) ⟨hx, hb, hml, hown, hts⟩ (J_X12_isWord l hI h) (cwV 1 hts gX12_name_X12_isWord rfl rfl rfl hdV_X12_isWord ⟨Nat.le_of_ble_eq_true rfl, Nat.le_of_ble_eq_true rfl⟩) (x_preV (ci := 12) hK hZ hA hW (hI 0 (by decide)) lR_0 rfl) rfl rfl hl.1 rfl (lv_room (Nat.le_of_ble_eq_true rfl)) dX12_name_64 ⟨Nat.zero_le _, Nat.zero_le _⟩) hW hA (fun r1014 σ1013 H locs h hW => ?_)
            try dsimp only at h
            refine lv_if_eq (tgt := 75) hx hb dX12_name_67 (by decide) (fun c1015 => ?_) (fun c1015 => ?_)
            · have h := h.1 c1015
              refine lv_aload_n hx hb dX12_name_75 rfl (lv_at hl 0 rfl) ?_
              refine lv_ldc2 hx hb hown (hts _ hwX12_name_5) dX12_name_76 ?_
              refine x_calli (va_runV (As := [.long (4562587 : Int64)]) (rest := []) ⟨hx, hb, hml, hown, hts⟩ (J_X12_isWord l hI h) (cwV 1 hts gX12_name_X12_isWord rfl rfl rfl hdV_X12_isWord ⟨Nat.le_of_ble_eq_true rfl, Nat.le_of_ble_eq_true rfl⟩) (x_preV (ci := 12) hK hZ hA hW (hI 0 (by decide)) lR_0 rfl) rfl rfl hl.1 rfl (lv_room (Nat.le_of_ble_eq_true rfl)) dX12_name_79 ⟨Nat.zero_le _, Nat.zero_le _⟩) hW hA (fun r1017 σ1016 H locs h hW => ?_)
              try dsimp only at h
              refine lv_if_eq (tgt := 90) hx hb dX12_name_82 (by decide) (fun c1018 => ?_) (fun c1018 => ?_)
              · have h := h.1 c1018
                refine lv_aload_n hx hb dX12_name_90 rfl (lv_at hl 0 rfl) ?_
                refine x_callv (va_runV (As := []) (rest := []) ⟨hx, hb, hml, hown, hts⟩ (J_X12_fail l hI h) (cwV 0 hts gX12_name_X12_fail rfl rfl rfl hdV_X12_fail ⟨Nat.le_of_ble_eq_true rfl, Nat.le_of_ble_eq_true rfl⟩) (x_preV (ci := 12) hK hZ hA hW (hI 0 (by decide)) lR_0 rfl) rfl rfl hl.1 rfl (lv_room (Nat.le_of_ble_eq_true rfl)) dX12_name_91 ⟨Nat.zero_le _, Nat.zero_le _⟩) hW hA (fun σ1019 H locs h hW => ?_)
                try dsimp only at h
                refine lv_iconst (v := 0) hx hb dX12_name_94 (by decide) ?_
                exact kr _ _ _ _ _ _ hW h dX12_name_95
              · have h := h.2 c1018
                refine lv_aload_n hx hb dX12_name_85 rfl (lv_at hl 0 rfl) ?_
                refine xgX12_50 hx hb hts hown hK hW 0 hcX12_name_X12 (hI 0 (by decide)) lR_0 (hts _ hwX12_name_6) dX12_name_86 ?_
                exact kr _ _ _ _ _ _ hW h dX12_name_89
            · have h := h.2 c1015
              refine lv_aload_n hx hb dX12_name_70 rfl (lv_at hl 0 rfl) ?_
              refine xgX12_49 hx hb hts hown hK hW 0 hcX12_name_X12 (hI 0 (by decide)) lR_0 (hts _ hwX12_name_7) dX12_name_71 ?_
              exact kr _ _ _ _ _ _ hW h dX12_name_74
          · have h := h.2 c1012
            refine lv_aload_n hx hb dX12_name_55 rfl (lv_at hl 0 rfl) ?_
            refine xgX12_48 hx hb hts hown hK hW 0 hcX12_name_X12 (hI 0 (by decide)) lR_0 (hts _ hwX12_name_8) dX12_name_56 ?_
            exact kr _ _ _ _ _ _ hW h dX12_name_59
        · have h := h.2 c1009
          refine lv_aload_n hx hb dX12_name_40 rfl (lv_at hl 0 rfl) ?_
          refine xgX12_47 hx hb hts hown hK hW 0 hcX12_name_X12 (hI 0 (by decide)) lR_0 (hts _ hwX12_name_9) dX12_name_41 ?_
          exact kr _ _ _ _ _ _ hW h dX12_name_44
      · have h := h.2 c1006
        refine lv_aload_n hx hb dX12_name_25 rfl (lv_at hl 0 rfl) ?_
        refine xgX12_46 hx hb hts hown hK hW 0 hcX12_name_X12 (hI 0 (by decide)) lR_0 (hts _ hwX12_name_10) dX12_name_26 ?_
        exact kr _ _ _ _ _ _ hW h dX12_name_29
    · have h := h.2 c1003
      refine lv_aload_n hx hb dX12_name_10 rfl (lv_at hl 0 rfl) ?_
      refine xgX12_45 hx hb hts hown hK hW 0 hcX12_name_X12 (hI 0 (by decide)) lR_0 (hts _ hwX12_name_11) dX12_name_11 ?_
      exact kr _ _ _ _ _ _ hW h dX12_name_14
  exact main _ _ _ hW hl
theorem hwX12_one_0 : (.fieldLink RX12 316 "FortyBeltsModel" "bad" "Z" : Cond) ∈ wsX12_one := (List.mem_cons_of_mem _ (List.mem_append_left _ (List.mem_append_left _ (List.mem_of_getElem? (i := 1) rfl))))
theorem hwX12_one_1 : (.fieldLink RX12 293 "FortyBeltsModel" "token" "I" : Cond) ∈ wsX12_one := (List.mem_cons_of_mem _ (List.mem_append_left _ (List.mem_append_left _ (List.mem_of_getElem? (i := 2) rfl))))
theorem hwX12_one_2 : (.fieldLink RX12 323 "FortyBeltsModel" "open" "I" : Cond) ∈ wsX12_one := (List.mem_cons_of_mem _ (List.mem_append_left _ (List.mem_append_left _ (List.mem_of_getElem? (i := 0) rfl))))
theorem hwX12_one_3 : (.fieldLink RX12 300 "FortyBeltsModel" "tokenWorth" "J" : Cond) ∈ wsX12_one := (List.mem_cons_of_mem _ (List.mem_append_left _ (List.mem_append_left _ (List.mem_of_getElem? (i := 3) rfl))))
theorem hcX12_one_X12 : ∀ w ∈ wsX120, w ∈ wsX12_one := fun _ h => (List.mem_cons_of_mem _ (List.mem_append_right _ h))
set_option maxHeartbeats 4000000 in
set_option maxRecDepth 100000 in
theorem JO_X12_one {D : va_G} {KA : Nat → ClassId} {zs : ZS} {ad : Nat → Nat} {ids : List Nat} {sz : Nat} (l : Launch) (hI : ∀ c, c < 35 → c ∈ ids) (d : Nat) {rec : Nat → St → (Int32 → St → Prop) → Prop} (hrec0 : ∀ {σ : St} {post : Int32 → St → Prop} {sz : Nat}, rec 0  σ post → Met l yX12_either wsX12_either (rmgR d) (va_Pc [.ref (ad 0)] (xIn D KA zs layR stR ad ids sz σ)) (va_Qi post (xOut D KA layR stR ad ids) (xA ad ids sz)) 0 0 (xA ad ids sz)) (hrec1 : ∀ {σ : St} {post : Int32 → St → Prop} {sz : Nat}, rec 1  σ post → Met l yX12_both wsX12_both (rmgR d) (va_Pc [.ref (ad 0)] (xIn D KA zs layR stR ad ids sz σ)) (va_Qi post (xOut D KA layR stR ad ids) (xA ad ids sz)) 0 0 (xA ad ids sz)) (hrec2 : ∀ {σ : St} {post : Int32 → St → Prop} {sz : Nat}, rec 2  σ post → Met l yX12_not wsX12_not (rmgR d) (va_Pc [.ref (ad 0)] (xIn D KA zs layR stR ad ids sz σ)) (va_Qi post (xOut D KA layR stR ad ids) (xA ad ids sz)) 0 0 (xA ad ids sz)) (hrec3 : ∀ {σ : St} {post : Int32 → St → Prop} {sz : Nat}, rec 3  σ post → Met l yX12_added wsX12_added (rmgR d) (va_Pc [.ref (ad 0)] (xIn D KA zs layR stR ad ids sz σ)) (va_Qi post (xOut D KA layR stR ad ids) (xA ad ids sz)) 0 0 (xA ad ids sz)) (hrec4 : ∀ {σ : St} {post : Int32 → St → Prop} {sz : Nat}, rec 4  σ post → Met l yX12_term wsX12_term (rmgR d) (va_Pc [.ref (ad 0)] (xIn D KA zs layR stR ad ids sz σ)) (va_Qi post (xOut D KA layR stR ad ids) (xA ad ids sz)) 0 0 (xA ad ids sz)) (hrec5 : ∀ {σ : St} {post : Int32 → St → Prop} {sz : Nat}, rec 5  σ post → Met l yX12_one wsX12_one (rmgR d) (va_Pc [.ref (ad 0)] (xIn D KA zs layR stR ad ids sz σ)) (va_Qi post (xOut D KA layR stR ad ids) (xA ad ids sz)) 0 0 (xA ad ids sz))   {σ : St} {post : Int32 → St → Prop} (h : wX12_one rec  σ post) : Met l yX12_one wsX12_one (rmgR (d + 1)) (va_Pc [.ref (ad 0)] (xIn D KA zs layR stR ad ids sz σ)) (va_Qi post (xOut D KA layR stR ad ids) (xA ad ids sz)) 0 0 (xA ad ids sz) := by
  refine Met.ofW (cc := cX12_one) (maxL := 2) (ret := (some .int)) (by decide) rfl ?_
  intro p e s m args below meth c s₁ B hml hv
  obtain ⟨hav, hsz, hK, hZ, hP, hD⟩ := hv
  have hx := B.exec
  have hb := B.bytes
  have hr := B.returns
  have hts := atoms_spec (ws := wsX12_one) B.pre
  have hown : s.vm.findClass RX12 = some m.cls := findClass_of_methodNamed B.named
  have hlocks := B.notSynchronized
  subst hsz
  have hA : ∀ q : Nat, s.heap.size ≤ q → xA ad ids s.heap.size q := fun q h => Or.inr h
  have hW : xW D KA layR stR ad ids (xA ad ids s.heap.size) s.heap σ s.heap [] := ⟨hP, xA_D (D := D) hD, va_S.rf⟩
  have kr : ∀ (v : Int32) (σ : St) (H : Heap) (locs : List Loc) (ls : Array Slot) (pc : Nat), xW D KA layR stR ad ids (xA ad ids s.heap.size) s.heap σ H locs → post v σ → decode cX12_one pc = .ok (.ireturn, 1) → W p l e (rmgR (d + 1)) s m args below meth c H locs 0 0 (MQ below (va_Qi post (xOut D KA layR stR ad ids) (xA ad ids s.heap.size)) args s 0 0 (xA ad ids s.heap.size)) (F0 m pc ls [.int v]) := fun v σ H locs ls pc hW h hd => x_iret hx hb hr hlocks hW h hd
  have hl := lv_entry ([.ref (ad 0)]) (n := 2) (Nat.le_of_ble_eq_true rfl)
  rw [show entryFrame m args 2 = entryFrame m ([.ref (ad 0)] : List Value).toArray 2 from by rw [hav]]
  rw [lg_entry_eq]
  generalize (lg_sl ([.ref (ad 0)]) ++ List.replicate (2 - (lg_sl ([.ref (ad 0)])).length) Slot.unset).toArray = ls at hl ⊢
  have hl : lv_has ls 2 [(0, .ref (ad 0))] := hl
  show W p l e (rmgR (d + 1)) s m args below meth c s.heap [] 0 0 _ _
  generalize MQ below (va_Qi post (xOut D KA layR stR ad ids) (xA ad ids s.heap.size)) args s 0 0 (xA ad ids s.heap.size) = Q at kr ⊢
  have blk161 : ∀ (x1 : Int32) (σ : St) (H : Heap) (locs : List Loc) (ls : Array Slot), xW D KA layR stR ad ids (xA ad ids s.heap.size) s.heap σ H locs → lv_has ls 2 [(1, .int x1)] → wX12_one_161 rec post x1 σ → W p l e (rmgR (d + 1)) s m args below meth c H locs 0 0 Q (F0 m 161 ls []) := by
    intro   x1 σ H locs ls hW hl h
    unfold wX12_one_161 at h
    refine lv_iload_n hx hb dX12_one_161 rfl (lv_at hl 0 rfl) ?_
    exact kr _ _ _ _ _ _ hW h dX12_one_162
  have blk157 : ∀ (x1 : Int32) (σ : St) (H : Heap) (locs : List Loc) (ls : Array Slot), xW D KA layR stR ad ids (xA ad ids s.heap.size) s.heap σ H locs → lv_has ls 2 [(0, .ref (ad 0)), (1, .int x1)] → wX12_one_157 rec post x1 σ → W p l e (rmgR (d + 1)) s m args below meth c H locs 0 0 Q (F0 m 157 ls []) := by
    intro   x1 σ H locs ls hW hl h
    unfold wX12_one_157 at h
    refine lv_aload_n hx hb dX12_one_157 rfl (lv_at hl 0 rfl) ?_
    refine x_callv (va_runV (As := []) (rest := []) ⟨hx, hb, hml, hown, hts⟩ (J_X12_fail l hI h) (cwV 0 hts gX12_one_X12_fail rfl rfl rfl hdV_X12_fail ⟨rmgR_of d (Nat.le_of_ble_eq_true rfl), rmgR_ol d (Nat.le_of_ble_eq_true rfl)⟩) (x_preV (ci := 12) hK hZ hA hW (hI 0 (by decide)) lR_0 rfl) rfl rfl hl.1 rfl (lv_room (Nat.le_of_ble_eq_true rfl)) dX12_one_158 ⟨Nat.zero_le _, Nat.zero_le _⟩) hW hA (fun σ1 H locs h hW => ?_)
    try dsimp only at h
    exact blk161   x1 _ _ _ _ hW (lv_sub hl [1] rfl) h
  have blk123 : ∀ (x1 : Int32) (σ : St) (H : Heap) (locs : List Loc) (ls : Array Slot), xW D KA layR stR ad ids (xA ad ids s.heap.size) s.heap σ H locs → lv_has ls 2 [(0, .ref (ad 0)), (1, .int x1)] → wX12_one_123 rec post x1 σ → W p l e (rmgR (d + 1)) s m args below meth c H locs 0 0 Q (F0 m 123 ls []) := by
    intro   x1 σ H locs ls hW hl h
    unfold wX12_one_123 at h
    refine lv_aload_n hx hb dX12_one_123 rfl (lv_at hl 0 rfl) ?_
    refine xgX12_43 hx hb hts hown hK hW 0 hcX12_one_X12 (hI 0 (by decide)) lR_0 (hts _ hwX12_one_0) dX12_one_124 ?_
    refine lv_if_ne (tgt := 157) hx hb dX12_one_127 (by decide) (fun c2 => ?_) (fun c2 => ?_)
    · have h := h.1 c2
      exact blk157   x1 _ _ _ _ hW (lv_sub hl [0, 1] rfl) h
    · have h := h.2 c2
      refine lv_aload_n hx hb dX12_one_130 rfl (lv_at hl 0 rfl) ?_
      refine xgX12_38 hx hb hts hown hK hW 0 hcX12_one_X12 (hI 0 (by decide)) lR_0 (hts _ hwX12_one_1) dX12_one_131 ?_
      refine lv_iconst (v := 1) hx hb dX12_one_134 (by decide) ?_
      refine lv_icmp_ne (tgt := 157) hx hb dX12_one_135 (by decide) (fun c3 => ?_) (fun c3 => ?_)
      · have h := h.1 c3
        exact blk157   x1 _ _ _ _ hW (lv_sub hl [0, 1] rfl) h
      · have h := h.2 c3
        refine lv_aload_n hx hb dX12_one_138 rfl (lv_at hl 0 rfl) ?_
        refine x_calli (va_runV (As := []) (rest := []) ⟨hx, hb, hml, hown, hts⟩ (J_X12_name l hI h) (cwV 0 hts gX12_one_X12_name rfl rfl rfl hdV_X12_name ⟨rmgR_of d (Nat.le_of_ble_eq_true rfl), rmgR_ol d (Nat.le_of_ble_eq_true rfl)⟩) (x_preV (ci := 12) hK hZ hA hW (hI 0 (by decide)) lR_0 rfl) rfl rfl hl.1 rfl (lv_room (Nat.le_of_ble_eq_true rfl)) dX12_one_139 ⟨Nat.zero_le _, Nat.zero_le _⟩) hW hA (fun r5 σ4 H locs h hW => ?_)
        try dsimp only at h
        refine lv_istore_n (lv' := [(1, .int r5), (0, .ref (ad 0))]) hx hb dX12_one_142 rfl hl (by decide) rfl (fun ls hl => ?_)
        refine lv_aload_n hx hb dX12_one_143 rfl (lv_at hl 1 rfl) ?_
        refine xgX12_43 hx hb hts hown hK hW 0 hcX12_one_X12 (hI 0 (by decide)) lR_0 (hts _ hwX12_one_0) dX12_one_144 ?_
        refine lv_if_ne (tgt := 161) hx hb dX12_one_147 (by decide) (fun c6 => ?_) (fun c6 => ?_)
        · have h := h.1 c6
          exact blk161   r5 _ _ _ _ hW (lv_sub hl [0] rfl) h
        · have h := h.2 c6
          refine lv_aload_n hx hb dX12_one_150 rfl (lv_at hl 1 rfl) ?_
          refine x_callv (va_runV (As := []) (rest := []) ⟨hx, hb, hml, hown, hts⟩ (J_X12_next l hI h) (cwV 0 hts gX12_one_X12_next rfl rfl rfl hdV_X12_next ⟨rmgR_of d (Nat.le_of_ble_eq_true rfl), rmgR_ol d (Nat.le_of_ble_eq_true rfl)⟩) (x_preV (ci := 12) hK hZ hA hW (hI 0 (by decide)) lR_0 rfl) rfl rfl hl.1 rfl (lv_room (Nat.le_of_ble_eq_true rfl)) dX12_one_151 ⟨Nat.zero_le _, Nat.zero_le _⟩) hW hA (fun σ7 H locs h hW => ?_)
          try dsimp only at h
          refine lv_goto (tgt := 161) hx hb dX12_one_154 (by decide) ?_
          exact blk161   r5 _ _ _ _ hW (lv_sub hl [0] rfl) h
  have blk71 : ∀ (x1 : Int32) (σ : St) (H : Heap) (locs : List Loc) (ls : Array Slot), xW D KA layR stR ad ids (xA ad ids s.heap.size) s.heap σ H locs → lv_has ls 2 [(0, .ref (ad 0)), (1, .int x1)] → wX12_one_71 rec post x1 σ → W p l e (rmgR (d + 1)) s m args below meth c H locs 0 0 Q (F0 m 71 ls []) := by
    intro   x1 σ H locs ls hW hl h
    unfold wX12_one_71 at h
    refine lv_aload_n hx hb dX12_one_71 rfl (lv_at hl 0 rfl) ?_
    refine lv_dup hx hb dX12_one_72 rfl ?_
    refine xgX12_42 hx hb hts hown hK hW 0 hcX12_one_X12 (hI 0 (by decide)) lR_0 (hts _ hwX12_one_2) dX12_one_73 ?_
    refine lv_iconst (v := 1) hx hb dX12_one_76 (by decide) ?_
    refine lv_isub hx hb dX12_one_77 ?_
    refine xpX12_42 hx hb hts hown hK hW 0 hcX12_one_X12 (hI 0 (by decide)) lR_0 (hts _ hwX12_one_2) dX12_one_78 (fun σ8 H locs hσ8 hW => ?_)
    have h := h σ8 hσ8
    refine lv_aload_n hx hb dX12_one_81 rfl (lv_at hl 0 rfl) ?_
    refine xgX12_43 hx hb hts hown hK hW 0 hcX12_one_X12 (hI 0 (by decide)) lR_0 (hts _ hwX12_one_0) dX12_one_82 ?_
    refine lv_if_ne (tgt := 161) hx hb dX12_one_85 (by decide) (fun c9 => ?_) (fun c9 => ?_)
    · have h := h.1 c9
      exact blk161   x1 _ _ _ _ hW (lv_sub hl [1] rfl) h
    · have h := h.2 c9
      refine lv_aload_n hx hb dX12_one_88 rfl (lv_at hl 0 rfl) ?_
      refine x_callv (va_runV (As := []) (rest := []) ⟨hx, hb, hml, hown, hts⟩ (J_X12_next l hI h) (cwV 0 hts gX12_one_X12_next rfl rfl rfl hdV_X12_next ⟨rmgR_of d (Nat.le_of_ble_eq_true rfl), rmgR_ol d (Nat.le_of_ble_eq_true rfl)⟩) (x_preV (ci := 12) hK hZ hA hW (hI 0 (by decide)) lR_0 rfl) rfl rfl hl.1 rfl (lv_room (Nat.le_of_ble_eq_true rfl)) dX12_one_89 ⟨Nat.zero_le _, Nat.zero_le _⟩) hW hA (fun σ10 H locs h hW => ?_)
      try dsimp only at h
      refine lv_goto (tgt := 161) hx hb dX12_one_92 (by decide) ?_
      exact blk161   x1 _ _ _ _ hW (lv_sub hl [1] rfl) h
  have main : ∀ (H : Heap) (locs : List Loc) (ls : Array Slot), xW D KA layR stR ad ids (xA ad ids s.heap.size) s.heap σ H locs → lv_has ls 2 [(0, .ref (ad 0))] → W p l e (rmgR (d + 1)) s m args below meth c H locs 0 0 Q (F0 m 0 ls []) := by
    intro H locs ls hW hl
    unfold wX12_one at h
    refine lv_iconst (v := 0) hx hb dX12_one_0 (by decide) ?_
    refine lv_istore_n (lv' := [(1, .int (0 : Int32)), (0, .ref (ad 0))]) hx hb dX12_one_1 rfl hl (by decide) rfl (fun ls hl => ?_)
    refine lv_aload_n hx hb dX12_one_2 rfl (lv_at hl 1 rfl) ?_
    refine lv_bipush (v := 45) hx hb dX12_one_3 (by decide) ?_
    refine x_calli (va_runV (As := [.int (45 : Int32)]) (rest := []) ⟨hx, hb, hml, hown, hts⟩ (J_X12_isSign l hI h) (cwV 1 hts gX12_one_X12_isSign rfl rfl rfl hdV_X12_isSign ⟨rmgR_of d (Nat.le_of_ble_eq_true rfl), rmgR_ol d (Nat.le_of_ble_eq_true rfl)⟩) (x_preV (ci := 12) hK hZ hA hW (hI 0 (by decide)) lR_0 rfl) rfl rfl hl.1 rfl (lv_room (Nat.le_of_ble_eq_true rfl)) dX12_one_5 ⟨Nat.zero_le _, Nat.zero_le _⟩) hW hA (fun r1002 σ1001 H locs h hW => ?_)
    try dsimp only at h
    refine lv_if_eq (tgt := 37) hx hb dX12_one_8 (by decide) (fun c1003 => ?_) (fun c1003 => ?_)
    · have h := h.1 c1003
      refine lv_aload_n hx hb dX12_one_37 rfl (lv_at hl 1 rfl) ?_
      refine lv_bipush (v := 40) hx hb dX12_one_38 (by decide) ?_
      refine x_calli (va_runV (As := [.int (40 : Int32)]) (rest := []) ⟨hx, hb, hml, hown, hts⟩ (J_X12_isSign l hI h) (cwV 1 hts gX12_one_X12_isSign rfl rfl rfl hdV_X12_isSign ⟨rmgR_of d (Nat.le_of_ble_eq_true rfl), rmgR_ol d (Nat.le_of_ble_eq_true rfl)⟩) (x_preV (ci := 12) hK hZ hA hW (hI 0 (by decide)) lR_0 rfl) rfl rfl hl.1 rfl (lv_room (Nat.le_of_ble_eq_true rfl)) dX12_one_40 ⟨Nat.zero_le _, Nat.zero_le _⟩) hW hA (fun r1005 σ1004 H locs h hW => ?_)
      try dsimp only at h
      refine lv_if_eq (tgt := 95) hx hb dX12_one_43 (by decide) (fun c1006 => ?_) (fun c1006 => ?_)
      · have h := h.1 c1006
        refine lv_aload_n hx hb dX12_one_95 rfl (lv_at hl 1 rfl) ?_
        refine xgX12_43 hx hb hts hown hK hW 0 hcX12_one_X12 (hI 0 (by decide)) lR_0 (hts _ hwX12_one_0) dX12_one_96 ?_
        refine lv_if_ne (tgt := 123) hx hb dX12_one_99 (by decide) (fun c1007 => ?_) (fun c1007 => ?_)
        · have h := h.1 c1007
          exact blk123   (0 : Int32) _ _ _ _ hW (lv_sub hl [1, 0] rfl) h
        · have h := h.2 c1007
          refine lv_aload_n hx hb dX12_one_102 rfl (lv_at hl 1 rfl) ?_
          refine xgX12_38 hx hb hts hown hK hW 0 hcX12_one_X12 (hI 0 (by decide)) lR_0 (hts _ hwX12_one_1) dX12_one_103 ?_
          refine lv_iconst (v := 2) hx hb dX12_one_106 (by decide) ?_
          refine lv_icmp_ne (tgt := 123) hx hb dX12_one_107 (by decide) (fun c1008 => ?_) (fun c1008 => ?_)
          · have h := h.1 c1008
            exact blk123   (0 : Int32) _ _ _ _ hW (lv_sub hl [1, 0] rfl) h
          · have h := h.2 c1008
            refine lv_aload_n hx hb dX12_one_110 rfl (lv_at hl 1 rfl) ?_
            refine xgX12_40 hx hb hts hown hK hW 0 hcX12_one_X12 (hI 0 (by decide)) lR_0 (hts _ hwX12_one_3) dX12_one_111 ?_
            refine lv_l2i hx hb dX12_one_114 rfl ?_
            refine lv_topi (fun v1009 hv1009 => ?_)
            have h := h v1009 hv1009
            refine lv_istore_n (lv' := [(1, .int v1009), (0, .ref (ad 0))]) hx hb dX12_one_115 rfl hl (by decide) rfl (fun ls hl => ?_)
            refine lv_aload_n hx hb dX12_one_116 rfl (lv_at hl 1 rfl) ?_
            refine x_callv (va_runV (As := []) (rest := []) ⟨hx, hb, hml, hown, hts⟩ (J_X12_next l hI h) (cwV 0 hts gX12_one_X12_next rfl rfl rfl hdV_X12_next ⟨rmgR_of d (Nat.le_of_ble_eq_true rfl), rmgR_ol d (Nat.le_of_ble_eq_true rfl)⟩) (x_preV (ci := 12) hK hZ hA hW (hI 0 (by decide)) lR_0 rfl) rfl rfl hl.1 rfl (lv_room (Nat.le_of_ble_eq_true rfl)) dX12_one_117 ⟨Nat.zero_le _, Nat.zero_le _⟩) hW hA (fun σ1010 H locs h hW => ?_)
            try dsimp only at h
            refine lv_goto (tgt := 161) hx hb dX12_one_120 (by decide) ?_
            exact blk161   v1009 _ _ _ _ hW (lv_sub hl [0] rfl) h
      · have h := h.2 c1006
        refine lv_aload_n hx hb dX12_one_46 rfl (lv_at hl 1 rfl) ?_
        refine x_calli (va_runV (As := []) (rest := []) ⟨hx, hb, hml, hown, hts⟩ (J_X12_opens l hI h) (cwV 0 hts gX12_one_X12_opens rfl rfl rfl hdV_X12_opens ⟨rmgR_of d (Nat.le_of_ble_eq_true rfl), rmgR_ol d (Nat.le_of_ble_eq_true rfl)⟩) (x_preV (ci := 12) hK hZ hA hW (hI 0 (by decide)) lR_0 rfl) rfl rfl hl.1 rfl (lv_room (Nat.le_of_ble_eq_true rfl)) dX12_one_47 ⟨Nat.zero_le _, Nat.zero_le _⟩) hW hA (fun r1012 σ1011 H locs h hW => ?_)
        try dsimp only at h
        refine lv_if_eq (tgt := 161) hx hb dX12_one_50 (by decide) (fun c1013 => ?_) (fun c1013 => ?_)
        · have h := h.1 c1013
          exact blk161   (0 : Int32) _ _ _ _ hW (lv_sub hl [0] rfl) h
        · have h := h.2 c1013
          refine lv_aload_n hx hb dX12_one_53 rfl (lv_at hl 1 rfl) ?_
          refine x_calli (va_runV (As := []) (rest := []) ⟨hx, hb, hml, hown, hts⟩ (hrec0 h) (cwV 0 hts gX12_one_X12_either rfl rfl rfl hdV_X12_either ⟨rmgR_f d, rmgR_l d (Nat.le_of_ble_eq_true rfl)⟩) (x_preV (ci := 12) hK hZ hA hW (hI 0 (by decide)) lR_0 rfl) rfl rfl hl.1 rfl (lv_room (Nat.le_of_ble_eq_true rfl)) dX12_one_54 ⟨Nat.zero_le _, Nat.zero_le _⟩) hW hA (fun r1015 σ1014 H locs h hW => ?_)
          try dsimp only at h
          refine lv_istore_n (lv' := [(1, .int r1015), (0, .ref (ad 0))]) hx hb dX12_one_57 rfl hl (by decide) rfl (fun ls hl => ?_)
          refine lv_aload_n hx hb dX12_one_58 rfl (lv_at hl 1 rfl) ?_
          refine lv_bipush (v := 41) hx hb dX12_one_59 (by decide) ?_
          refine x_calli (va_runV (As := [.int (41 : Int32)]) (rest := []) ⟨hx, hb, hml, hown, hts⟩ (J_X12_isSign l hI h) (cwV 1 hts gX12_one_X12_isSign rfl rfl rfl hdV_X12_isSign ⟨rmgR_of d (Nat.le_of_ble_eq_true rfl), rmgR_ol d (Nat.le_of_ble_eq_true rfl)⟩) (x_preV (ci := 12) hK hZ hA hW (hI 0 (by decide)) lR_0 rfl) rfl rfl hl.1 rfl (lv_room (Nat.le_of_ble_eq_true rfl)) dX12_one_61 ⟨Nat.zero_le _, Nat.zero_le _⟩) hW hA (fun r1017 σ1016 H locs h hW => ?_)
          try dsimp only at h
          refine lv_if_ne (tgt := 71) hx hb dX12_one_64 (by decide) (fun c1018 => ?_) (fun c1018 => ?_)
          · have h := h.1 c1018
            exact blk71   r1015 _ _ _ _ hW (lv_sub hl [1, 0] rfl) h
          · have h := h.2 c1018
            refine lv_aload_n hx hb dX12_one_67 rfl (lv_at hl 1 rfl) ?_
            refine x_callv (va_runV (As := []) (rest := []) ⟨hx, hb, hml, hown, hts⟩ (J_X12_fail l hI h) (cwV 0 hts gX12_one_X12_fail rfl rfl rfl hdV_X12_fail ⟨rmgR_of d (Nat.le_of_ble_eq_true rfl), rmgR_ol d (Nat.le_of_ble_eq_true rfl)⟩) (x_preV (ci := 12) hK hZ hA hW (hI 0 (by decide)) lR_0 rfl) rfl rfl hl.1 rfl (lv_room (Nat.le_of_ble_eq_true rfl)) dX12_one_68 ⟨Nat.zero_le _, Nat.zero_le _⟩) hW hA (fun σ1019 H locs h hW => ?_)
            try dsimp only at h
            exact blk71   r1015 _ _ _ _ hW (lv_sub hl [1, 0] rfl) h
    · have h := h.2 c1003
      refine lv_aload_n hx hb dX12_one_11 rfl (lv_at hl 1 rfl) ?_
      refine x_calli (va_runV (As := []) (rest := []) ⟨hx, hb, hml, hown, hts⟩ (J_X12_opens l hI h) (cwV 0 hts gX12_one_X12_opens rfl rfl rfl hdV_X12_opens ⟨rmgR_of d (Nat.le_of_ble_eq_true rfl), rmgR_ol d (Nat.le_of_ble_eq_true rfl)⟩) (x_preV (ci := 12) hK hZ hA hW (hI 0 (by decide)) lR_0 rfl) rfl rfl hl.1 rfl (lv_room (Nat.le_of_ble_eq_true rfl)) dX12_one_12 ⟨Nat.zero_le _, Nat.zero_le _⟩) hW hA (fun r1021 σ1020 H locs h hW => ?_)
      try dsimp only at h
      refine lv_if_eq (tgt := 161) hx hb dX12_one_15 (by decide) (fun c1022 => ?_) (fun c1022 => ?_)
      · have h := h.1 c1022
        exact blk161   (0 : Int32) _ _ _ _ hW (lv_sub hl [0] rfl) h
      · have h := h.2 c1022
        refine lv_aload_n hx hb dX12_one_18 rfl (lv_at hl 1 rfl) ?_
        refine x_calli (va_runV (As := []) (rest := []) ⟨hx, hb, hml, hown, hts⟩ (hrec5 h) (cwV 0 hts gX12_one_X12_one rfl rfl rfl hdV_X12_one ⟨rmgR_f d, rmgR_l d (Nat.le_of_ble_eq_true rfl)⟩) (x_preV (ci := 12) hK hZ hA hW (hI 0 (by decide)) lR_0 rfl) rfl rfl hl.1 rfl (lv_room (Nat.le_of_ble_eq_true rfl)) dX12_one_19 ⟨Nat.zero_le _, Nat.zero_le _⟩) hW hA (fun r1024 σ1023 H locs h hW => ?_)
        try dsimp only at h
        refine lv_ineg hx hb dX12_one_22 ?_
        refine lv_topi (fun v1025 hv1025 => ?_)
        have h := h v1025 hv1025
        refine lv_istore_n (lv' := [(1, .int v1025), (0, .ref (ad 0))]) hx hb dX12_one_23 rfl hl (by decide) rfl (fun ls hl => ?_)
        refine lv_aload_n hx hb dX12_one_24 rfl (lv_at hl 1 rfl) ?_
        refine lv_dup hx hb dX12_one_25 rfl ?_
        refine xgX12_42 hx hb hts hown hK hW 0 hcX12_one_X12 (hI 0 (by decide)) lR_0 (hts _ hwX12_one_2) dX12_one_26 ?_
        refine lv_iconst (v := 1) hx hb dX12_one_29 (by decide) ?_
        refine lv_isub hx hb dX12_one_30 ?_
        refine xpX12_42 hx hb hts hown hK hW 0 hcX12_one_X12 (hI 0 (by decide)) lR_0 (hts _ hwX12_one_2) dX12_one_31 (fun σ1026 H locs hσ1026 hW => ?_)
        have h := h σ1026 hσ1026
        refine lv_goto (tgt := 161) hx hb dX12_one_34 (by decide) ?_
        exact blk161   v1025 _ _ _ _ hW (lv_sub hl [0] rfl) h
  exact main _ _ _ hW hl
set_option maxHeartbeats 4000000 in
set_option maxRecDepth 100000 in
theorem JO_X12_term {D : va_G} {KA : Nat → ClassId} {zs : ZS} {ad : Nat → Nat} {ids : List Nat} {sz : Nat} (l : Launch) (hI : ∀ c, c < 35 → c ∈ ids) (d : Nat) {rec : Nat → St → (Int32 → St → Prop) → Prop} (hrec0 : ∀ {σ : St} {post : Int32 → St → Prop} {sz : Nat}, rec 0  σ post → Met l yX12_either wsX12_either (rmgR d) (va_Pc [.ref (ad 0)] (xIn D KA zs layR stR ad ids sz σ)) (va_Qi post (xOut D KA layR stR ad ids) (xA ad ids sz)) 0 0 (xA ad ids sz)) (hrec1 : ∀ {σ : St} {post : Int32 → St → Prop} {sz : Nat}, rec 1  σ post → Met l yX12_both wsX12_both (rmgR d) (va_Pc [.ref (ad 0)] (xIn D KA zs layR stR ad ids sz σ)) (va_Qi post (xOut D KA layR stR ad ids) (xA ad ids sz)) 0 0 (xA ad ids sz)) (hrec2 : ∀ {σ : St} {post : Int32 → St → Prop} {sz : Nat}, rec 2  σ post → Met l yX12_not wsX12_not (rmgR d) (va_Pc [.ref (ad 0)] (xIn D KA zs layR stR ad ids sz σ)) (va_Qi post (xOut D KA layR stR ad ids) (xA ad ids sz)) 0 0 (xA ad ids sz)) (hrec3 : ∀ {σ : St} {post : Int32 → St → Prop} {sz : Nat}, rec 3  σ post → Met l yX12_added wsX12_added (rmgR d) (va_Pc [.ref (ad 0)] (xIn D KA zs layR stR ad ids sz σ)) (va_Qi post (xOut D KA layR stR ad ids) (xA ad ids sz)) 0 0 (xA ad ids sz)) (hrec4 : ∀ {σ : St} {post : Int32 → St → Prop} {sz : Nat}, rec 4  σ post → Met l yX12_term wsX12_term (rmgR d) (va_Pc [.ref (ad 0)] (xIn D KA zs layR stR ad ids sz σ)) (va_Qi post (xOut D KA layR stR ad ids) (xA ad ids sz)) 0 0 (xA ad ids sz)) (hrec5 : ∀ {σ : St} {post : Int32 → St → Prop} {sz : Nat}, rec 5  σ post → Met l yX12_one wsX12_one (rmgR d) (va_Pc [.ref (ad 0)] (xIn D KA zs layR stR ad ids sz σ)) (va_Qi post (xOut D KA layR stR ad ids) (xA ad ids sz)) 0 0 (xA ad ids sz))   {σ : St} {post : Int32 → St → Prop} (h : wX12_term rec  σ post) : Met l yX12_term wsX12_term (rmgR (d + 1)) (va_Pc [.ref (ad 0)] (xIn D KA zs layR stR ad ids sz σ)) (va_Qi post (xOut D KA layR stR ad ids) (xA ad ids sz)) 0 0 (xA ad ids sz) := by
  refine Met.ofW (cc := cX12_term) (maxL := 2) (ret := (some .int)) (by decide) rfl ?_
  intro p e s m args below meth c s₁ B hml hv
  obtain ⟨hav, hsz, hK, hZ, hP, hD⟩ := hv
  have hx := B.exec
  have hb := B.bytes
  have hr := B.returns
  have hts := atoms_spec (ws := wsX12_term) B.pre
  have hown : s.vm.findClass RX12 = some m.cls := findClass_of_methodNamed B.named
  have hlocks := B.notSynchronized
  subst hsz
  have hA : ∀ q : Nat, s.heap.size ≤ q → xA ad ids s.heap.size q := fun q h => Or.inr h
  have hW : xW D KA layR stR ad ids (xA ad ids s.heap.size) s.heap σ s.heap [] := ⟨hP, xA_D (D := D) hD, va_S.rf⟩
  have kr : ∀ (v : Int32) (σ : St) (H : Heap) (locs : List Loc) (ls : Array Slot) (pc : Nat), xW D KA layR stR ad ids (xA ad ids s.heap.size) s.heap σ H locs → post v σ → decode cX12_term pc = .ok (.ireturn, 1) → W p l e (rmgR (d + 1)) s m args below meth c H locs 0 0 (MQ below (va_Qi post (xOut D KA layR stR ad ids) (xA ad ids s.heap.size)) args s 0 0 (xA ad ids s.heap.size)) (F0 m pc ls [.int v]) := fun v σ H locs ls pc hW h hd => x_iret hx hb hr hlocks hW h hd
  have hl := lv_entry ([.ref (ad 0)]) (n := 2) (Nat.le_of_ble_eq_true rfl)
  rw [show entryFrame m args 2 = entryFrame m ([.ref (ad 0)] : List Value).toArray 2 from by rw [hav]]
  rw [lg_entry_eq]
  generalize (lg_sl ([.ref (ad 0)]) ++ List.replicate (2 - (lg_sl ([.ref (ad 0)])).length) Slot.unset).toArray = ls at hl ⊢
  have hl : lv_has ls 2 [(0, .ref (ad 0))] := hl
  show W p l e (rmgR (d + 1)) s m args below meth c s.heap [] 0 0 _ _
  generalize MQ below (va_Qi post (xOut D KA layR stR ad ids) (xA ad ids s.heap.size)) args s 0 0 (xA ad ids s.heap.size) = Q at kr ⊢
  have blk5 : ∀ (n : Nat) (x1 : Int32) (σ : St) (H : Heap) (locs : List Loc) (ls : Array Slot), xW D KA layR stR ad ids (xA ad ids s.heap.size) s.heap σ H locs → lv_has ls 2 [(0, .ref (ad 0)), (1, .int x1)] → wX12_term_5 rec post  n x1 σ → W p l e (rmgR (d + 1)) s m args below meth c H locs 0 0 Q (F0 m 5 ls []) := by
    intro    n
    induction n with
    | zero => intro x1 σ H locs ls hW hl h; exact (h : False).elim
    | succ n ih =>
      intro x1 σ H locs ls hW hl h
      have hk5 : ∀ (x1 : Int32) (σ : St) (H : Heap) (locs : List Loc) (ls : Array Slot), xW D KA layR stR ad ids (xA ad ids s.heap.size) s.heap σ H locs → lv_has ls 2 [(0, .ref (ad 0)), (1, .int x1)] → (wX12_term_5 rec post  n) x1 σ → W p l e (rmgR (d + 1)) s m args below meth c H locs 0 0 Q (F0 m 5 ls []) := fun x1 σ H locs ls hW hl h => ih x1 σ H locs ls hW hl h
      rw [wX12_term_5_s] at h
      try dsimp only at h
      generalize wX12_term_5 rec post  n = k5 at h hk5
      refine lv_aload_n hx hb dX12_term_5 rfl (lv_at hl 0 rfl) ?_
      refine lv_bipush (v := 42) hx hb dX12_term_6 (by decide) ?_
      refine x_calli (va_runV (As := [.int (42 : Int32)]) (rest := []) ⟨hx, hb, hml, hown, hts⟩ (J_X12_isSign l hI h) (cwV 1 hts gX12_term_X12_isSign rfl rfl rfl hdV_X12_isSign ⟨rmgR_of d (Nat.le_of_ble_eq_true rfl), rmgR_ol d (Nat.le_of_ble_eq_true rfl)⟩) (x_preV (ci := 12) hK hZ hA hW (hI 0 (by decide)) lR_0 rfl) rfl rfl hl.1 rfl (lv_room (Nat.le_of_ble_eq_true rfl)) dX12_term_8 ⟨Nat.zero_le _, Nat.zero_le _⟩) hW hA (fun r2 σ1 H locs h hW => ?_)
      try dsimp only at h
      refine lv_if_eq (tgt := 28) hx hb dX12_term_11 (by decide) (fun c3 => ?_) (fun c3 => ?_)
      · have h := h.1 c3
        refine lv_iload_n hx hb dX12_term_28 rfl (lv_at hl 1 rfl) ?_
        exact kr _ _ _ _ _ _ hW h dX12_term_29
      · have h := h.2 c3
        refine lv_aload_n hx hb dX12_term_14 rfl (lv_at hl 0 rfl) ?_
        refine x_callv (va_runV (As := []) (rest := []) ⟨hx, hb, hml, hown, hts⟩ (J_X12_next l hI h) (cwV 0 hts gX12_term_X12_next rfl rfl rfl hdV_X12_next ⟨rmgR_of d (Nat.le_of_ble_eq_true rfl), rmgR_ol d (Nat.le_of_ble_eq_true rfl)⟩) (x_preV (ci := 12) hK hZ hA hW (hI 0 (by decide)) lR_0 rfl) rfl rfl hl.1 rfl (lv_room (Nat.le_of_ble_eq_true rfl)) dX12_term_15 ⟨Nat.zero_le _, Nat.zero_le _⟩) hW hA (fun σ4 H locs h hW => ?_)
        try dsimp only at h
        refine lv_iload_n hx hb dX12_term_18 rfl (lv_at hl 1 rfl) ?_
        refine lv_aload_n hx hb dX12_term_19 rfl (lv_at hl 0 rfl) ?_
        refine x_calli (va_runV (As := []) (rest := [.int x1]) ⟨hx, hb, hml, hown, hts⟩ (hrec5 h) (cwV 0 hts gX12_term_X12_one rfl rfl rfl hdV_X12_one ⟨rmgR_f d, rmgR_l d (Nat.le_of_ble_eq_true rfl)⟩) (x_preV (ci := 12) hK hZ hA hW (hI 0 (by decide)) lR_0 rfl) rfl rfl hl.1 rfl (lv_room (Nat.le_of_ble_eq_true rfl)) dX12_term_20 ⟨Nat.zero_le _, Nat.zero_le _⟩) hW hA (fun r6 σ5 H locs h hW => ?_)
        try dsimp only at h
        refine lv_imul hx hb dX12_term_23 ?_
        refine lv_topi (fun v7 hv7 => ?_)
        have h := h v7 hv7
        refine lv_istore_n (lv' := [(1, .int v7), (0, .ref (ad 0))]) hx hb dX12_term_24 rfl hl (by decide) rfl (fun ls hl => ?_)
        refine lv_goto (tgt := 5) hx hb dX12_term_25 (by decide) ?_
        exact hk5 v7 _ _ _ _ hW (lv_sub hl [1, 0] rfl) h
  have main : ∀ (H : Heap) (locs : List Loc) (ls : Array Slot), xW D KA layR stR ad ids (xA ad ids s.heap.size) s.heap σ H locs → lv_has ls 2 [(0, .ref (ad 0))] → W p l e (rmgR (d + 1)) s m args below meth c H locs 0 0 Q (F0 m 0 ls []) := by
    intro H locs ls hW hl
    unfold wX12_term at h
    refine lv_aload_n hx hb dX12_term_0 rfl (lv_at hl 0 rfl) ?_
    refine x_calli (va_runV (As := []) (rest := []) ⟨hx, hb, hml, hown, hts⟩ (hrec5 h) (cwV 0 hts gX12_term_X12_one rfl rfl rfl hdV_X12_one ⟨rmgR_f d, rmgR_l d (Nat.le_of_ble_eq_true rfl)⟩) (x_preV (ci := 12) hK hZ hA hW (hI 0 (by decide)) lR_0 rfl) rfl rfl hl.1 rfl (lv_room (Nat.le_of_ble_eq_true rfl)) dX12_term_1 ⟨Nat.zero_le _, Nat.zero_le _⟩) hW hA (fun r1002 σ1001 H locs h hW => ?_)
    try dsimp only at h
    refine lv_istore_n (lv' := [(1, .int r1002), (0, .ref (ad 0))]) hx hb dX12_term_4 rfl hl (by decide) rfl (fun ls hl => ?_)
    obtain ⟨n, h⟩ := h
    exact blk5    n r1002 _ _ _ _ hW (lv_sub hl [1, 0] rfl) h
  exact main _ _ _ hW hl
theorem JGR {D : va_G} {KA : Nat → ClassId} {zs : ZS} {ad : Nat → Nat} {ids : List Nat} (l : Launch) (hI : ∀ c, c < 35 → c ∈ ids) : ∀ d : Nat, (∀ {σ : St} {post : Int32 → St → Prop} {sz : Nat}, wgR d 0  σ post → Met l yX12_either wsX12_either (rmgR d) (va_Pc [.ref (ad 0)] (xIn D KA zs layR stR ad ids sz σ)) (va_Qi post (xOut D KA layR stR ad ids) (xA ad ids sz)) 0 0 (xA ad ids sz)) ∧ (∀ {σ : St} {post : Int32 → St → Prop} {sz : Nat}, wgR d 1  σ post → Met l yX12_both wsX12_both (rmgR d) (va_Pc [.ref (ad 0)] (xIn D KA zs layR stR ad ids sz σ)) (va_Qi post (xOut D KA layR stR ad ids) (xA ad ids sz)) 0 0 (xA ad ids sz)) ∧ (∀ {σ : St} {post : Int32 → St → Prop} {sz : Nat}, wgR d 2  σ post → Met l yX12_not wsX12_not (rmgR d) (va_Pc [.ref (ad 0)] (xIn D KA zs layR stR ad ids sz σ)) (va_Qi post (xOut D KA layR stR ad ids) (xA ad ids sz)) 0 0 (xA ad ids sz)) ∧ (∀ {σ : St} {post : Int32 → St → Prop} {sz : Nat}, wgR d 3  σ post → Met l yX12_added wsX12_added (rmgR d) (va_Pc [.ref (ad 0)] (xIn D KA zs layR stR ad ids sz σ)) (va_Qi post (xOut D KA layR stR ad ids) (xA ad ids sz)) 0 0 (xA ad ids sz)) ∧ (∀ {σ : St} {post : Int32 → St → Prop} {sz : Nat}, wgR d 4  σ post → Met l yX12_term wsX12_term (rmgR d) (va_Pc [.ref (ad 0)] (xIn D KA zs layR stR ad ids sz σ)) (va_Qi post (xOut D KA layR stR ad ids) (xA ad ids sz)) 0 0 (xA ad ids sz)) ∧ (∀ {σ : St} {post : Int32 → St → Prop} {sz : Nat}, wgR d 5  σ post → Met l yX12_one wsX12_one (rmgR d) (va_Pc [.ref (ad 0)] (xIn D KA zs layR stR ad ids sz σ)) (va_Qi post (xOut D KA layR stR ad ids) (xA ad ids sz)) 0 0 (xA ad ids sz)) := by
  intro d
  induction d with
  | zero => exact ⟨fun h => (h : False).elim, fun h => (h : False).elim, fun h => (h : False).elim, fun h => (h : False).elim, fun h => (h : False).elim, fun h => (h : False).elim⟩
  | succ d ih =>
    obtain ⟨ih0, ih1, ih2, ih3, ih4, ih5⟩ := ih
    exact ⟨fun h => JO_X12_either l hI d (rec := wgR d) (fun h => ih0 h) (fun h => ih1 h) (fun h => ih2 h) (fun h => ih3 h) (fun h => ih4 h) (fun h => ih5 h) h, fun h => JO_X12_both l hI d (rec := wgR d) (fun h => ih0 h) (fun h => ih1 h) (fun h => ih2 h) (fun h => ih3 h) (fun h => ih4 h) (fun h => ih5 h) h, fun h => JO_X12_not l hI d (rec := wgR d) (fun h => ih0 h) (fun h => ih1 h) (fun h => ih2 h) (fun h => ih3 h) (fun h => ih4 h) (fun h => ih5 h) h, fun h => JO_X12_added l hI d (rec := wgR d) (fun h => ih0 h) (fun h => ih1 h) (fun h => ih2 h) (fun h => ih3 h) (fun h => ih4 h) (fun h => ih5 h) h, fun h => JO_X12_term l hI d (rec := wgR d) (fun h => ih0 h) (fun h => ih1 h) (fun h => ih2 h) (fun h => ih3 h) (fun h => ih4 h) (fun h => ih5 h) h, fun h => JO_X12_one l hI d (rec := wgR d) (fun h => ih0 h) (fun h => ih1 h) (fun h => ih2 h) (fun h => ih3 h) (fun h => ih4 h) (fun h => ih5 h) h⟩
theorem JGR_0 {D : va_G} {KA : Nat → ClassId} {zs : ZS} {ad : Nat → Nat} {ids : List Nat} (l : Launch) (hI : ∀ c, c < 35 → c ∈ ids) {σ : St} {post : Int32 → St → Prop} {sz : Nat} (h : wgR 100 0  σ post) : Met l yX12_either wsX12_either (rmgR 100) (va_Pc [.ref (ad 0)] (xIn D KA zs layR stR ad ids sz σ)) (va_Qi post (xOut D KA layR stR ad ids) (xA ad ids sz)) 0 0 (xA ad ids sz) := (JGR l hI 100).1 h
theorem JGR_1 {D : va_G} {KA : Nat → ClassId} {zs : ZS} {ad : Nat → Nat} {ids : List Nat} (l : Launch) (hI : ∀ c, c < 35 → c ∈ ids) {σ : St} {post : Int32 → St → Prop} {sz : Nat} (h : wgR 100 1  σ post) : Met l yX12_both wsX12_both (rmgR 100) (va_Pc [.ref (ad 0)] (xIn D KA zs layR stR ad ids sz σ)) (va_Qi post (xOut D KA layR stR ad ids) (xA ad ids sz)) 0 0 (xA ad ids sz) := (JGR l hI 100).2.1 h
theorem JGR_2 {D : va_G} {KA : Nat → ClassId} {zs : ZS} {ad : Nat → Nat} {ids : List Nat} (l : Launch) (hI : ∀ c, c < 35 → c ∈ ids) {σ : St} {post : Int32 → St → Prop} {sz : Nat} (h : wgR 100 2  σ post) : Met l yX12_not wsX12_not (rmgR 100) (va_Pc [.ref (ad 0)] (xIn D KA zs layR stR ad ids sz σ)) (va_Qi post (xOut D KA layR stR ad ids) (xA ad ids sz)) 0 0 (xA ad ids sz) := (JGR l hI 100).2.2.1 h
theorem JGR_3 {D : va_G} {KA : Nat → ClassId} {zs : ZS} {ad : Nat → Nat} {ids : List Nat} (l : Launch) (hI : ∀ c, c < 35 → c ∈ ids) {σ : St} {post : Int32 → St → Prop} {sz : Nat} (h : wgR 100 3  σ post) : Met l yX12_added wsX12_added (rmgR 100) (va_Pc [.ref (ad 0)] (xIn D KA zs layR stR ad ids sz σ)) (va_Qi post (xOut D KA layR stR ad ids) (xA ad ids sz)) 0 0 (xA ad ids sz) := (JGR l hI 100).2.2.2.1 h
theorem JGR_4 {D : va_G} {KA : Nat → ClassId} {zs : ZS} {ad : Nat → Nat} {ids : List Nat} (l : Launch) (hI : ∀ c, c < 35 → c ∈ ids) {σ : St} {post : Int32 → St → Prop} {sz : Nat} (h : wgR 100 4  σ post) : Met l yX12_term wsX12_term (rmgR 100) (va_Pc [.ref (ad 0)] (xIn D KA zs layR stR ad ids sz σ)) (va_Qi post (xOut D KA layR stR ad ids) (xA ad ids sz)) 0 0 (xA ad ids sz) := (JGR l hI 100).2.2.2.2.1 h
theorem JGR_5 {D : va_G} {KA : Nat → ClassId} {zs : ZS} {ad : Nat → Nat} {ids : List Nat} (l : Launch) (hI : ∀ c, c < 35 → c ∈ ids) {σ : St} {post : Int32 → St → Prop} {sz : Nat} (h : wgR 100 5  σ post) : Met l yX12_one wsX12_one (rmgR 100) (va_Pc [.ref (ad 0)] (xIn D KA zs layR stR ad ids sz σ)) (va_Qi post (xOut D KA layR stR ad ids) (xA ad ids sz)) 0 0 (xA ad ids sz) := (JGR l hI 100).2.2.2.2.2 h
theorem hwX12_cutTurns_0 : (.fieldLink RX12 74 "FortyBeltsModel" "above" "[J" : Cond) ∈ wsX12_cutTurns := (List.mem_cons_of_mem _ (List.mem_append_left _ (List.mem_of_getElem? (i := 0) rfl)))
theorem hwX12_cutTurns_1 : (.fieldLink RX12 78 "FortyBeltsModel" "below" "[J" : Cond) ∈ wsX12_cutTurns := (List.mem_cons_of_mem _ (List.mem_append_left _ (List.mem_of_getElem? (i := 1) rfl)))
theorem hwX12_cutTurns_2 : (.constantLong RX12 214 (1000000) : Cond) ∈ wsX12_cutTurns := (List.mem_cons_of_mem _ (List.mem_append_left _ (List.mem_of_getElem? (i := 2) rfl)))
theorem hcX12_cutTurns_X12 : ∀ w ∈ wsX120, w ∈ wsX12_cutTurns := fun _ h => (List.mem_cons_of_mem _ (List.mem_append_right _ h))
set_option maxHeartbeats 4000000 in
set_option maxRecDepth 100000 in
theorem J_X12_cutTurns {D : va_G} {KA : Nat → ClassId} {zs : ZS} {ad : Nat → Nat} {ids : List Nat} {sz : Nat} (l : Launch) (hI : ∀ c, c < 35 → c ∈ ids) {a1 : Int32}  {σ : St} {post : Int32 → St → Prop} (h : wX12_cutTurns  a1 σ post) : Met l yX12_cutTurns wsX12_cutTurns rmX12_cutTurns (va_Pc [.ref (ad 0), .int a1] (xIn D KA zs layR stR ad ids sz σ)) (va_Qi post (xOut D KA layR stR ad ids) (xA ad ids sz)) 0 0 (xA ad ids sz) := by
  refine Met.ofW (cc := cX12_cutTurns) (maxL := 2) (ret := (some .int)) (by decide) rfl ?_
  intro p e s m args below meth c s₁ B hml hv
  obtain ⟨hav, hsz, hK, hZ, hP, hD⟩ := hv
  have hx := B.exec
  have hb := B.bytes
  have hr := B.returns
  have hts := atoms_spec (ws := wsX12_cutTurns) B.pre
  have hown : s.vm.findClass RX12 = some m.cls := findClass_of_methodNamed B.named
  have hlocks := B.notSynchronized
  subst hsz
  have hA : ∀ q : Nat, s.heap.size ≤ q → xA ad ids s.heap.size q := fun q h => Or.inr h
  have hW : xW D KA layR stR ad ids (xA ad ids s.heap.size) s.heap σ s.heap [] := ⟨hP, xA_D (D := D) hD, va_S.rf⟩
  have kr : ∀ (v : Int32) (σ : St) (H : Heap) (locs : List Loc) (ls : Array Slot) (pc : Nat), xW D KA layR stR ad ids (xA ad ids s.heap.size) s.heap σ H locs → post v σ → decode cX12_cutTurns pc = .ok (.ireturn, 1) → W p l e rmX12_cutTurns s m args below meth c H locs 0 0 (MQ below (va_Qi post (xOut D KA layR stR ad ids) (xA ad ids s.heap.size)) args s 0 0 (xA ad ids s.heap.size)) (F0 m pc ls [.int v]) := fun v σ H locs ls pc hW h hd => x_iret hx hb hr hlocks hW h hd
  have hl := lv_entry ([.ref (ad 0), .int a1]) (n := 2) (Nat.le_of_ble_eq_true rfl)
  rw [show entryFrame m args 2 = entryFrame m ([.ref (ad 0), .int a1] : List Value).toArray 2 from by rw [hav]]
  rw [lg_entry_eq]
  generalize (lg_sl ([.ref (ad 0), .int a1]) ++ List.replicate (2 - (lg_sl ([.ref (ad 0), .int a1])).length) Slot.unset).toArray = ls at hl ⊢
  have hl : lv_has ls 2 [(0, .ref (ad 0)), (1, .int a1)] := hl
  show W p l e rmX12_cutTurns s m args below meth c s.heap [] 0 0 _ _
  generalize MQ below (va_Qi post (xOut D KA layR stR ad ids) (xA ad ids s.heap.size)) args s 0 0 (xA ad ids s.heap.size) = Q at kr ⊢
  have blk39 : ∀ (s0 : Int64) (σ : St) (H : Heap) (locs : List Loc) (ls : Array Slot), xW D KA layR stR ad ids (xA ad ids s.heap.size) s.heap σ H locs → lv_has ls 2 [] → wX12_cutTurns_39 post s0 σ → W p l e rmX12_cutTurns s m args below meth c H locs 0 0 Q (F0 m 39 ls [.long s0]) := by
    intro   s0 σ H locs ls hW hl h
    unfold wX12_cutTurns_39 at h
    refine lv_l2i hx hb dX12_cutTurns_39 rfl ?_
    exact kr _ _ _ _ _ _ hW h dX12_cutTurns_40
  have main : ∀ (H : Heap) (locs : List Loc) (ls : Array Slot), xW D KA layR stR ad ids (xA ad ids s.heap.size) s.heap σ H locs → lv_has ls 2 [(0, .ref (ad 0)), (1, .int a1)] → W p l e rmX12_cutTurns s m args below meth c H locs 0 0 Q (F0 m 0 ls []) := by
    intro H locs ls hW hl
    unfold wX12_cutTurns at h
    refine lv_aload_n hx hb dX12_cutTurns_0 rfl (lv_at hl 0 rfl) ?_
    refine xgX12_31r hx hb hts hown hK hW 0 hcX12_cutTurns_X12 (hI 0 (by decide)) lR_0 (hts _ hwX12_cutTurns_0) (sR_0_31 _) dX12_cutTurns_1 ?_
    refine lv_iload_n hx hb dX12_cutTurns_4 rfl (lv_at hl 1 rfl) ?_
    obtain ⟨hi1001, h⟩ := h
    refine x_lald hx hb hK hW 20 (hI 20 (by decide)) lR_20 hi1001 dX12_cutTurns_5 ?_
    refine lv_aload_n hx hb dX12_cutTurns_6 rfl (lv_at hl 0 rfl) ?_
    refine xgX12_32r hx hb hts hown hK hW 0 hcX12_cutTurns_X12 (hI 0 (by decide)) lR_0 (hts _ hwX12_cutTurns_1) (sR_0_32 _) dX12_cutTurns_7 ?_
    refine lv_iload_n hx hb dX12_cutTurns_10 rfl (lv_at hl 1 rfl) ?_
    refine x_lald hx hb hK hW 21 (hI 21 (by decide)) lR_21 hi1001 dX12_cutTurns_11 ?_
    obtain ⟨hd1003, h⟩ := h
    refine lv_ldiv hx hb dX12_cutTurns_12 hd1003 ?_
    refine lv_ldc2 hx hb hown (hts _ hwX12_cutTurns_2) dX12_cutTurns_13 ?_
    refine W.lcmp hx hb dX12_cutTurns_16 ?_
    refine lv_if_le (tgt := 26) hx hb dX12_cutTurns_17 (by decide) (fun c1004 => ?_) (fun c1004 => ?_)
    · have h := h.1 c1004
      refine lv_aload_n hx hb dX12_cutTurns_26 rfl (lv_at hl 0 rfl) ?_
      refine xgX12_31r hx hb hts hown hK hW 0 hcX12_cutTurns_X12 (hI 0 (by decide)) lR_0 (hts _ hwX12_cutTurns_0) (sR_0_31 _) dX12_cutTurns_27 ?_
      refine lv_iload_n hx hb dX12_cutTurns_30 rfl (lv_at hl 1 rfl) ?_
      refine x_lald hx hb hK hW 20 (hI 20 (by decide)) lR_20 hi1001 dX12_cutTurns_31 ?_
      refine lv_aload_n hx hb dX12_cutTurns_32 rfl (lv_at hl 0 rfl) ?_
      refine xgX12_32r hx hb hts hown hK hW 0 hcX12_cutTurns_X12 (hI 0 (by decide)) lR_0 (hts _ hwX12_cutTurns_1) (sR_0_32 _) dX12_cutTurns_33 ?_
      refine lv_iload_n hx hb dX12_cutTurns_36 rfl (lv_at hl 1 rfl) ?_
      refine x_lald hx hb hK hW 21 (hI 21 (by decide)) lR_21 hi1001 dX12_cutTurns_37 ?_
      refine lv_ldiv hx hb dX12_cutTurns_38 hd1003 ?_
      exact blk39   ((gJ σ 20 a1.toNatClampNeg) / (gJ σ 21 a1.toNatClampNeg)) _ _ _ _ hW (lv_sub hl [] rfl) h
    · have h := h.2 c1004
      refine lv_ldc2 hx hb hown (hts _ hwX12_cutTurns_2) dX12_cutTurns_20 ?_
      refine lv_goto (tgt := 39) hx hb dX12_cutTurns_23 (by decide) ?_
      exact blk39   (1000000 : Int64) _ _ _ _ hW (lv_sub hl [] rfl) h
  exact main _ _ _ hW hl
theorem hwX12_loaded_0 : (.fieldLink RX12 29 "FortyBeltsModel" "shaftOf" "[I" : Cond) ∈ wsX12_loaded := (List.mem_cons_of_mem _ (List.mem_append_left _ (List.mem_of_getElem? (i := 4) rfl)))
theorem hwX12_loaded_1 : (.constantLong RX12 222 (100) : Cond) ∈ wsX12_loaded := (List.mem_cons_of_mem _ (List.mem_append_left _ (List.mem_of_getElem? (i := 5) rfl)))
theorem hwX12_loaded_2 : (.fieldLink RX12 44 "FortyBeltsModel" "isRun" "[I" : Cond) ∈ wsX12_loaded := (List.mem_cons_of_mem _ (List.mem_append_left _ (List.mem_of_getElem? (i := 0) rfl)))
theorem hwX12_loaded_3 : (.fieldLink RX12 32 "FortyBeltsModel" "load" "[I" : Cond) ∈ wsX12_loaded := (List.mem_cons_of_mem _ (List.mem_append_left _ (List.mem_of_getElem? (i := 1) rfl)))
theorem hwX12_loaded_4 : (.fieldLink RX12 84 "FortyBeltsModel" "moreAt" "I" : Cond) ∈ wsX12_loaded := (List.mem_cons_of_mem _ (List.mem_append_left _ (List.mem_of_getElem? (i := 2) rfl)))
theorem hwX12_loaded_5 : (.fieldLink RX12 216 "FortyBeltsModel" "more" "I" : Cond) ∈ wsX12_loaded := (List.mem_cons_of_mem _ (List.mem_append_left _ (List.mem_of_getElem? (i := 3) rfl)))
theorem hcX12_loaded_X12 : ∀ w ∈ wsX120, w ∈ wsX12_loaded := fun _ h => (List.mem_cons_of_mem _ (List.mem_append_right _ h))
set_option maxHeartbeats 4000000 in
set_option maxRecDepth 100000 in
theorem J_X12_loaded {D : va_G} {KA : Nat → ClassId} {zs : ZS} {ad : Nat → Nat} {ids : List Nat} {sz : Nat} (l : Launch) (hI : ∀ c, c < 35 → c ∈ ids) {a1 : Int32}  {σ : St} {post : Int32 → St → Prop} (h : wX12_loaded  a1 σ post) : Met l yX12_loaded wsX12_loaded rmX12_loaded (va_Pc [.ref (ad 0), .int a1] (xIn D KA zs layR stR ad ids sz σ)) (va_Qi post (xOut D KA layR stR ad ids) (xA ad ids sz)) 0 0 (xA ad ids sz) := by
  refine Met.ofW (cc := cX12_loaded) (maxL := 2) (ret := (some .int)) (by decide) rfl ?_
  intro p e s m args below meth c s₁ B hml hv
  obtain ⟨hav, hsz, hK, hZ, hP, hD⟩ := hv
  have hx := B.exec
  have hb := B.bytes
  have hr := B.returns
  have hts := atoms_spec (ws := wsX12_loaded) B.pre
  have hown : s.vm.findClass RX12 = some m.cls := findClass_of_methodNamed B.named
  have hlocks := B.notSynchronized
  subst hsz
  have hA : ∀ q : Nat, s.heap.size ≤ q → xA ad ids s.heap.size q := fun q h => Or.inr h
  have hW : xW D KA layR stR ad ids (xA ad ids s.heap.size) s.heap σ s.heap [] := ⟨hP, xA_D (D := D) hD, va_S.rf⟩
  have kr : ∀ (v : Int32) (σ : St) (H : Heap) (locs : List Loc) (ls : Array Slot) (pc : Nat), xW D KA layR stR ad ids (xA ad ids s.heap.size) s.heap σ H locs → post v σ → decode cX12_loaded pc = .ok (.ireturn, 1) → W p l e rmX12_loaded s m args below meth c H locs 0 0 (MQ below (va_Qi post (xOut D KA layR stR ad ids) (xA ad ids s.heap.size)) args s 0 0 (xA ad ids s.heap.size)) (F0 m pc ls [.int v]) := fun v σ H locs ls pc hW h hd => x_iret hx hb hr hlocks hW h hd
  have hl := lv_entry ([.ref (ad 0), .int a1]) (n := 2) (Nat.le_of_ble_eq_true rfl)
  rw [show entryFrame m args 2 = entryFrame m ([.ref (ad 0), .int a1] : List Value).toArray 2 from by rw [hav]]
  rw [lg_entry_eq]
  generalize (lg_sl ([.ref (ad 0), .int a1]) ++ List.replicate (2 - (lg_sl ([.ref (ad 0), .int a1])).length) Slot.unset).toArray = ls at hl ⊢
  have hl : lv_has ls 2 [(0, .ref (ad 0)), (1, .int a1)] := hl
  show W p l e rmX12_loaded s m args below meth c s.heap [] 0 0 _ _
  generalize MQ below (va_Qi post (xOut D KA layR stR ad ids) (xA ad ids s.heap.size)) args s 0 0 (xA ad ids s.heap.size) = Q at kr ⊢
  have blk54 : ∀ (s0 : Int32) (σ : St) (H : Heap) (locs : List Loc) (ls : Array Slot), xW D KA layR stR ad ids (xA ad ids s.heap.size) s.heap σ H locs → lv_has ls 2 [] → wX12_loaded_54 post s0 σ → W p l e rmX12_loaded s m args below meth c H locs 0 0 Q (F0 m 54 ls [.int s0]) := by
    intro   s0 σ H locs ls hW hl h
    unfold wX12_loaded_54 at h
    exact kr _ _ _ _ _ _ hW h dX12_loaded_54
  have blk35 : ∀ (x1 : Int32) (s0 : Int32) (s1 : Int32) (σ : St) (H : Heap) (locs : List Loc) (ls : Array Slot), xW D KA layR stR ad ids (xA ad ids s.heap.size) s.heap σ H locs → lv_has ls 2 [(0, .ref (ad 0)), (1, .int x1)] → wX12_loaded_35 post x1 s0 s1 σ → W p l e rmX12_loaded s m args below meth c H locs 0 0 Q (F0 m 35 ls [.int s1, .int s0]) := by
    intro   x1 s0 s1 σ H locs ls hW hl h
    unfold wX12_loaded_35 at h
    refine lv_iadd hx hb dX12_loaded_35 ?_
    refine lv_i2l hx hb dX12_loaded_36 rfl ?_
    refine lv_aload_n hx hb dX12_loaded_37 rfl (lv_at hl 0 rfl) ?_
    refine lv_aload_n hx hb dX12_loaded_38 rfl (lv_at hl 0 rfl) ?_
    refine xgX12_12r hx hb hts hown hK hW 0 hcX12_loaded_X12 (hI 0 (by decide)) lR_0 (hts _ hwX12_loaded_0) (sR_0_12 _) dX12_loaded_39 ?_
    refine lv_iload_n hx hb dX12_loaded_42 rfl (lv_at hl 1 rfl) ?_
    obtain ⟨hi1, h⟩ := h
    refine x_iald hx hb hK hW 6 (hI 6 (by decide)) lR_6 hi1 dX12_loaded_43 ?_
    refine x_calli (va_runV (As := [.int (gI σ 6 x1.toNatClampNeg)]) (rest := [.long ((s0 + s1).toInt64)]) ⟨hx, hb, hml, hown, hts⟩ (J_X12_cutTurns l hI h) (cwV 1 hts gX12_loaded_X12_cutTurns rfl rfl rfl hdV_X12_cutTurns ⟨Nat.le_of_ble_eq_true rfl, Nat.le_of_ble_eq_true rfl⟩) (x_preV (ci := 12) hK hZ hA hW (hI 0 (by decide)) lR_0 rfl) rfl rfl hl.1 rfl (lv_room (Nat.le_of_ble_eq_true rfl)) dX12_loaded_44 ⟨Nat.zero_le _, Nat.zero_le _⟩) hW hA (fun r3 σ2 H locs h hW => ?_)
    try dsimp only at h
    refine lv_i2l hx hb dX12_loaded_47 rfl ?_
    refine lv_lmul hx hb dX12_loaded_48 ?_
    refine lv_ldc2 hx hb hown (hts _ hwX12_loaded_1) dX12_loaded_49 ?_
    refine lv_ldiv hx hb dX12_loaded_52 (by decide) ?_
    refine lv_l2i hx hb dX12_loaded_53 rfl ?_
    exact blk54   (((((s0 + s1).toInt64) * (r3.toInt64)) / (100 : Int64)).toInt32) _ _ _ _ hW (lv_sub hl [] rfl) h
  have main : ∀ (H : Heap) (locs : List Loc) (ls : Array Slot), xW D KA layR stR ad ids (xA ad ids s.heap.size) s.heap σ H locs → lv_has ls 2 [(0, .ref (ad 0)), (1, .int a1)] → W p l e rmX12_loaded s m args below meth c H locs 0 0 Q (F0 m 0 ls []) := by
    intro H locs ls hW hl
    unfold wX12_loaded at h
    refine lv_aload_n hx hb dX12_loaded_0 rfl (lv_at hl 0 rfl) ?_
    refine xgX12_17r hx hb hts hown hK hW 0 hcX12_loaded_X12 (hI 0 (by decide)) lR_0 (hts _ hwX12_loaded_2) (sR_0_17 _) dX12_loaded_1 ?_
    refine lv_iload_n hx hb dX12_loaded_4 rfl (lv_at hl 1 rfl) ?_
    obtain ⟨hi1001, h⟩ := h
    refine x_iald hx hb hK hW 11 (hI 11 (by decide)) lR_11 hi1001 dX12_loaded_5 ?_
    refine lv_if_ne (tgt := 13) hx hb dX12_loaded_6 (by decide) (fun c1002 => ?_) (fun c1002 => ?_)
    · have h := h.1 c1002
      refine lv_aload_n hx hb dX12_loaded_13 rfl (lv_at hl 0 rfl) ?_
      refine xgX12_13r hx hb hts hown hK hW 0 hcX12_loaded_X12 (hI 0 (by decide)) lR_0 (hts _ hwX12_loaded_3) (sR_0_13 _) dX12_loaded_14 ?_
      refine lv_iload_n hx hb dX12_loaded_17 rfl (lv_at hl 1 rfl) ?_
      refine x_iald hx hb hK hW 7 (hI 7 (by decide)) lR_7 hi1001 dX12_loaded_18 ?_
      refine lv_iload_n hx hb dX12_loaded_19 rfl (lv_at hl 1 rfl) ?_
      refine lv_aload_n hx hb dX12_loaded_20 rfl (lv_at hl 0 rfl) ?_
      refine xgX12_34 hx hb hts hown hK hW 0 hcX12_loaded_X12 (hI 0 (by decide)) lR_0 (hts _ hwX12_loaded_4) dX12_loaded_21 ?_
      refine lv_icmp_ne (tgt := 34) hx hb dX12_loaded_24 (by decide) (fun c1004 => ?_) (fun c1004 => ?_)
      · have h := h.1 c1004
        refine lv_iconst (v := 0) hx hb dX12_loaded_34 (by decide) ?_
        exact blk35   a1 (gI σ 7 a1.toNatClampNeg) (0 : Int32) _ _ _ _ hW (lv_sub hl [0, 1] rfl) h
      · have h := h.2 c1004
        refine lv_aload_n hx hb dX12_loaded_27 rfl (lv_at hl 0 rfl) ?_
        refine xgX12_35 hx hb hts hown hK hW 0 hcX12_loaded_X12 (hI 0 (by decide)) lR_0 (hts _ hwX12_loaded_5) dX12_loaded_28 ?_
        refine lv_goto (tgt := 35) hx hb dX12_loaded_31 (by decide) ?_
        exact blk35   a1 (gI σ 7 a1.toNatClampNeg) (gI σ 0 35) _ _ _ _ hW (lv_sub hl [0, 1] rfl) h
    · have h := h.2 c1002
      refine lv_iconst (v := 0) hx hb dX12_loaded_9 (by decide) ?_
      refine lv_goto (tgt := 54) hx hb dX12_loaded_10 (by decide) ?_
      exact blk54   (0 : Int32) _ _ _ _ hW (lv_sub hl [] rfl) h
  exact main _ _ _ hW hl
theorem hwX12_allLoaded_0 : (.fieldLink RX12 160 "FortyBeltsModel" "machines" "I" : Cond) ∈ wsX12_allLoaded := (List.mem_cons_of_mem _ (List.mem_append_left _ (List.mem_of_getElem? (i := 0) rfl)))
theorem hcX12_allLoaded_X12 : ∀ w ∈ wsX120, w ∈ wsX12_allLoaded := fun _ h => (List.mem_cons_of_mem _ (List.mem_append_right _ h))
set_option maxHeartbeats 4000000 in
set_option maxRecDepth 100000 in
theorem J_X12_allLoaded {D : va_G} {KA : Nat → ClassId} {zs : ZS} {ad : Nat → Nat} {ids : List Nat} {sz : Nat} (l : Launch) (hI : ∀ c, c < 35 → c ∈ ids)   {σ : St} {post : Int32 → St → Prop} (h : wX12_allLoaded   σ post) : Met l yX12_allLoaded wsX12_allLoaded rmX12_allLoaded (va_Pc [.ref (ad 0)] (xIn D KA zs layR stR ad ids sz σ)) (va_Qi post (xOut D KA layR stR ad ids) (xA ad ids sz)) 0 0 (xA ad ids sz) := by
  refine Met.ofW (cc := cX12_allLoaded) (maxL := 3) (ret := (some .int)) (by decide) rfl ?_
  intro p e s m args below meth c s₁ B hml hv
  obtain ⟨hav, hsz, hK, hZ, hP, hD⟩ := hv
  have hx := B.exec
  have hb := B.bytes
  have hr := B.returns
  have hts := atoms_spec (ws := wsX12_allLoaded) B.pre
  have hown : s.vm.findClass RX12 = some m.cls := findClass_of_methodNamed B.named
  have hlocks := B.notSynchronized
  subst hsz
  have hA : ∀ q : Nat, s.heap.size ≤ q → xA ad ids s.heap.size q := fun q h => Or.inr h
  have hW : xW D KA layR stR ad ids (xA ad ids s.heap.size) s.heap σ s.heap [] := ⟨hP, xA_D (D := D) hD, va_S.rf⟩
  have kr : ∀ (v : Int32) (σ : St) (H : Heap) (locs : List Loc) (ls : Array Slot) (pc : Nat), xW D KA layR stR ad ids (xA ad ids s.heap.size) s.heap σ H locs → post v σ → decode cX12_allLoaded pc = .ok (.ireturn, 1) → W p l e rmX12_allLoaded s m args below meth c H locs 0 0 (MQ below (va_Qi post (xOut D KA layR stR ad ids) (xA ad ids s.heap.size)) args s 0 0 (xA ad ids s.heap.size)) (F0 m pc ls [.int v]) := fun v σ H locs ls pc hW h hd => x_iret hx hb hr hlocks hW h hd
  have hl := lv_entry ([.ref (ad 0)]) (n := 3) (Nat.le_of_ble_eq_true rfl)
  rw [show entryFrame m args 3 = entryFrame m ([.ref (ad 0)] : List Value).toArray 3 from by rw [hav]]
  rw [lg_entry_eq]
  generalize (lg_sl ([.ref (ad 0)]) ++ List.replicate (3 - (lg_sl ([.ref (ad 0)])).length) Slot.unset).toArray = ls at hl ⊢
  have hl : lv_has ls 3 [(0, .ref (ad 0))] := hl
  show W p l e rmX12_allLoaded s m args below meth c s.heap [] 0 0 _ _
  generalize MQ below (va_Qi post (xOut D KA layR stR ad ids) (xA ad ids s.heap.size)) args s 0 0 (xA ad ids s.heap.size) = Q at kr ⊢
  have blk4 : ∀ (n : Nat) (x1 : Int32) (x2 : Int32) (σ : St) (H : Heap) (locs : List Loc) (ls : Array Slot), xW D KA layR stR ad ids (xA ad ids s.heap.size) s.heap σ H locs → lv_has ls 3 [(0, .ref (ad 0)), (1, .int x1), (2, .int x2)] → wX12_allLoaded_4 post  n x1 x2 σ → W p l e rmX12_allLoaded s m args below meth c H locs 0 0 Q (F0 m 4 ls []) := by
    intro    n
    induction n with
    | zero => intro x1 x2 σ H locs ls hW hl h; exact (h : False).elim
    | succ n ih =>
      intro x1 x2 σ H locs ls hW hl h
      have hk4 : ∀ (x1 : Int32) (x2 : Int32) (σ : St) (H : Heap) (locs : List Loc) (ls : Array Slot), xW D KA layR stR ad ids (xA ad ids s.heap.size) s.heap σ H locs → lv_has ls 3 [(0, .ref (ad 0)), (1, .int x1), (2, .int x2)] → (wX12_allLoaded_4 post  n) x1 x2 σ → W p l e rmX12_allLoaded s m args below meth c H locs 0 0 Q (F0 m 4 ls []) := fun x1 x2 σ H locs ls hW hl h => ih x1 x2 σ H locs ls hW hl h
      rw [wX12_allLoaded_4_s] at h
      try dsimp only at h
      generalize wX12_allLoaded_4 post  n = k4 at h hk4
      refine lv_iload_n hx hb dX12_allLoaded_4 rfl (lv_at hl 2 rfl) ?_
      refine lv_aload_n hx hb dX12_allLoaded_5 rfl (lv_at hl 0 rfl) ?_
      refine xgX12_18 hx hb hts hown hK hW 0 hcX12_allLoaded_X12 (hI 0 (by decide)) lR_0 (hts _ hwX12_allLoaded_0) dX12_allLoaded_6 ?_
      refine lv_icmp_ge (tgt := 26) hx hb dX12_allLoaded_9 (by decide) (fun c1 => ?_) (fun c1 => ?_)
      · have h := h.1 c1
        refine lv_iload_n hx hb dX12_allLoaded_26 rfl (lv_at hl 1 rfl) ?_
        exact kr _ _ _ _ _ _ hW h dX12_allLoaded_27
      · have h := h.2 c1
        refine lv_iload_n hx hb dX12_allLoaded_12 rfl (lv_at hl 1 rfl) ?_
        refine lv_aload_n hx hb dX12_allLoaded_13 rfl (lv_at hl 0 rfl) ?_
        refine lv_iload_n hx hb dX12_allLoaded_14 rfl (lv_at hl 2 rfl) ?_
        refine x_calli (va_runV (As := [.int x2]) (rest := [.int x1]) ⟨hx, hb, hml, hown, hts⟩ (J_X12_loaded l hI h) (cwV 1 hts gX12_allLoaded_X12_loaded rfl rfl rfl hdV_X12_loaded ⟨Nat.le_of_ble_eq_true rfl, Nat.le_of_ble_eq_true rfl⟩) (x_preV (ci := 12) hK hZ hA hW (hI 0 (by decide)) lR_0 rfl) rfl rfl hl.1 rfl (lv_room (Nat.le_of_ble_eq_true rfl)) dX12_allLoaded_15 ⟨Nat.zero_le _, Nat.zero_le _⟩) hW hA (fun r3 σ2 H locs h hW => ?_)
        try dsimp only at h
        refine lv_iadd hx hb dX12_allLoaded_18 ?_
        refine lv_topi (fun v4 hv4 => ?_)
        have h := h v4 hv4
        refine lv_istore_n (lv' := [(1, .int v4), (0, .ref (ad 0)), (2, .int x2)]) hx hb dX12_allLoaded_19 rfl hl (by decide) rfl (fun ls hl => ?_)
        obtain ⟨v5, hv5⟩ : ∃ y : Int32, y = x2 + (1 : Int32) := ⟨_, rfl⟩
        have h := h v5 hv5
        refine lv_iinc (v := v5) (lv' := [(2, .int v5), (1, .int v4), (0, .ref (ad 0))]) hx hb dX12_allLoaded_20 hl (k := 2) rfl (by rw [hv5]; rfl) (by decide) rfl (fun ls hl => ?_)
        refine lv_goto (tgt := 4) hx hb dX12_allLoaded_23 (by decide) ?_
        exact hk4 v4 v5 _ _ _ _ hW (lv_sub hl [2, 1, 0] rfl) h
  have main : ∀ (H : Heap) (locs : List Loc) (ls : Array Slot), xW D KA layR stR ad ids (xA ad ids s.heap.size) s.heap σ H locs → lv_has ls 3 [(0, .ref (ad 0))] → W p l e rmX12_allLoaded s m args below meth c H locs 0 0 Q (F0 m 0 ls []) := by
    intro H locs ls hW hl
    unfold wX12_allLoaded at h
    refine lv_iconst (v := 0) hx hb dX12_allLoaded_0 (by decide) ?_
    refine lv_istore_n (lv' := [(1, .int (0 : Int32)), (0, .ref (ad 0))]) hx hb dX12_allLoaded_1 rfl hl (by decide) rfl (fun ls hl => ?_)
    refine lv_iconst (v := 0) hx hb dX12_allLoaded_2 (by decide) ?_
    refine lv_istore_n (lv' := [(2, .int (0 : Int32)), (1, .int (0 : Int32)), (0, .ref (ad 0))]) hx hb dX12_allLoaded_3 rfl hl (by decide) rfl (fun ls hl => ?_)
    obtain ⟨n, h⟩ := h
    exact blk4    n (0 : Int32) (0 : Int32) _ _ _ _ hW (lv_sub hl [2, 1, 0] rfl) h
  exact main _ _ _ hW hl
theorem hwX12_isTwice_0 : (.fieldLink RX12 166 "FortyBeltsModel" "belts" "I" : Cond) ∈ wsX12_isTwice := (List.mem_cons_of_mem _ (List.mem_append_left _ (List.mem_of_getElem? (i := 0) rfl)))
theorem hwX12_isTwice_1 : (.fieldLink RX12 59 "FortyBeltsModel" "drumA" "[I" : Cond) ∈ wsX12_isTwice := (List.mem_cons_of_mem _ (List.mem_append_left _ (List.mem_of_getElem? (i := 1) rfl)))
theorem hwX12_isTwice_2 : (.fieldLink RX12 62 "FortyBeltsModel" "drumB" "[I" : Cond) ∈ wsX12_isTwice := (List.mem_cons_of_mem _ (List.mem_append_left _ (List.mem_of_getElem? (i := 2) rfl)))
theorem hcX12_isTwice_X12 : ∀ w ∈ wsX120, w ∈ wsX12_isTwice := fun _ h => (List.mem_cons_of_mem _ (List.mem_append_right _ h))
set_option maxHeartbeats 4000000 in
set_option maxRecDepth 100000 in
theorem J_X12_isTwice {D : va_G} {KA : Nat → ClassId} {zs : ZS} {ad : Nat → Nat} {ids : List Nat} {sz : Nat} (l : Launch) (hI : ∀ c, c < 35 → c ∈ ids) {a1 : Int32}  {σ : St} {post : Int32 → St → Prop} (h : wX12_isTwice  a1 σ post) : Met l yX12_isTwice wsX12_isTwice rmX12_isTwice (va_Pc [.ref (ad 0), .int a1] (xIn D KA zs layR stR ad ids sz σ)) (va_Qi post (xOut D KA layR stR ad ids) (xA ad ids sz)) 0 0 (xA ad ids sz) := by
  refine Met.ofW (cc := cX12_isTwice) (maxL := 4) (ret := (some .boolean)) (by decide) rfl ?_
  intro p e s m args below meth c s₁ B hml hv
  obtain ⟨hav, hsz, hK, hZ, hP, hD⟩ := hv
  have hx := B.exec
  have hb := B.bytes
  have hr := B.returns
  have hts := atoms_spec (ws := wsX12_isTwice) B.pre
  have hown : s.vm.findClass RX12 = some m.cls := findClass_of_methodNamed B.named
  have hlocks := B.notSynchronized
  subst hsz
  have hA : ∀ q : Nat, s.heap.size ≤ q → xA ad ids s.heap.size q := fun q h => Or.inr h
  have hW : xW D KA layR stR ad ids (xA ad ids s.heap.size) s.heap σ s.heap [] := ⟨hP, xA_D (D := D) hD, va_S.rf⟩
  have kr : ∀ (v : Int32) (σ : St) (H : Heap) (locs : List Loc) (ls : Array Slot) (pc : Nat), xW D KA layR stR ad ids (xA ad ids s.heap.size) s.heap σ H locs → isB v → post v σ → decode cX12_isTwice pc = .ok (.ireturn, 1) → W p l e rmX12_isTwice s m args below meth c H locs 0 0 (MQ below (va_Qi post (xOut D KA layR stR ad ids) (xA ad ids s.heap.size)) args s 0 0 (xA ad ids s.heap.size)) (F0 m pc ls [.int v]) := fun v σ H locs ls pc hW hz h hd => x_zret hx hb hr hlocks hW hz h hd
  have hl := lv_entry ([.ref (ad 0), .int a1]) (n := 4) (Nat.le_of_ble_eq_true rfl)
  rw [show entryFrame m args 4 = entryFrame m ([.ref (ad 0), .int a1] : List Value).toArray 4 from by rw [hav]]
  rw [lg_entry_eq]
  generalize (lg_sl ([.ref (ad 0), .int a1]) ++ List.replicate (4 - (lg_sl ([.ref (ad 0), .int a1])).length) Slot.unset).toArray = ls at hl ⊢
  have hl : lv_has ls 4 [(0, .ref (ad 0)), (1, .int a1)] := hl
  show W p l e rmX12_isTwice s m args below meth c s.heap [] 0 0 _ _
  generalize MQ below (va_Qi post (xOut D KA layR stR ad ids) (xA ad ids s.heap.size)) args s 0 0 (xA ad ids s.heap.size) = Q at kr ⊢
  have blk56 : ∀ (s0 : Int32) (σ : St) (H : Heap) (locs : List Loc) (ls : Array Slot), xW D KA layR stR ad ids (xA ad ids s.heap.size) s.heap σ H locs → lv_has ls 4 [] → wX12_isTwice_56 post s0 σ → W p l e rmX12_isTwice s m args below meth c H locs 0 0 Q (F0 m 56 ls [.int s0]) := by
    intro   s0 σ H locs ls hW hl h
    unfold wX12_isTwice_56 at h
    obtain ⟨hz1, h⟩ := h
    exact kr _ _ _ _ _ _ hW hz1 h dX12_isTwice_56
  have blk38 : ∀ (x1 : Int32) (k4 : Int32 → Int32 → St → Prop) (hk4 : ∀ (x2 : Int32) (x3 : Int32) (σ : St) (H : Heap) (locs : List Loc) (ls : Array Slot), xW D KA layR stR ad ids (xA ad ids s.heap.size) s.heap σ H locs → lv_has ls 4 [(0, .ref (ad 0)), (1, .int x1), (2, .int x2), (3, .int x3)] → k4 x2 x3 σ → W p l e rmX12_isTwice s m args below meth c H locs 0 0 Q (F0 m 4 ls [])) (x3 : Int32) (s0 : Int32) (s1 : Int32) (σ : St) (H : Heap) (locs : List Loc) (ls : Array Slot), xW D KA layR stR ad ids (xA ad ids s.heap.size) s.heap σ H locs → lv_has ls 4 [(0, .ref (ad 0)), (1, .int x1), (3, .int x3)] → wX12_isTwice_38 k4 post x1 x3 s0 s1 σ → W p l e rmX12_isTwice s m args below meth c H locs 0 0 Q (F0 m 38 ls [.int s1, .int s0]) := by
    intro x1 k4 hk4 x3 s0 s1 σ H locs ls hW hl h
    unfold wX12_isTwice_38 at h
    refine lv_iadd hx hb dX12_isTwice_38 ?_
    refine lv_topi (fun v2 hv2 => ?_)
    have h := h v2 hv2
    refine lv_istore_n (lv' := [(2, .int v2), (0, .ref (ad 0)), (1, .int x1), (3, .int x3)]) hx hb dX12_isTwice_39 rfl hl (by decide) rfl (fun ls hl => ?_)
    obtain ⟨v3, hv3⟩ : ∃ y : Int32, y = x3 + (1 : Int32) := ⟨_, rfl⟩
    have h := h v3 hv3
    refine lv_iinc (v := v3) (lv' := [(3, .int v3), (2, .int v2), (0, .ref (ad 0)), (1, .int x1)]) hx hb dX12_isTwice_40 hl (k := 3) rfl (by rw [hv3]; rfl) (by decide) rfl (fun ls hl => ?_)
    refine lv_goto (tgt := 4) hx hb dX12_isTwice_43 (by decide) ?_
    exact hk4 v2 v3 _ _ _ _ hW (lv_sub hl [2, 3, 1, 0] rfl) h
  have blk33 : ∀ (x1 : Int32) (k4 : Int32 → Int32 → St → Prop) (hk4 : ∀ (x2 : Int32) (x3 : Int32) (σ : St) (H : Heap) (locs : List Loc) (ls : Array Slot), xW D KA layR stR ad ids (xA ad ids s.heap.size) s.heap σ H locs → lv_has ls 4 [(0, .ref (ad 0)), (1, .int x1), (2, .int x2), (3, .int x3)] → k4 x2 x3 σ → W p l e rmX12_isTwice s m args below meth c H locs 0 0 Q (F0 m 4 ls [])) (x3 : Int32) (s0 : Int32) (σ : St) (H : Heap) (locs : List Loc) (ls : Array Slot), xW D KA layR stR ad ids (xA ad ids s.heap.size) s.heap σ H locs → lv_has ls 4 [(0, .ref (ad 0)), (1, .int x1), (3, .int x3)] → wX12_isTwice_33 k4 post x1 x3 s0 σ → W p l e rmX12_isTwice s m args below meth c H locs 0 0 Q (F0 m 33 ls [.int s0]) := by
    intro x1 k4 hk4 x3 s0 σ H locs ls hW hl h
    unfold wX12_isTwice_33 at h
    refine lv_iconst (v := 1) hx hb dX12_isTwice_33 (by decide) ?_
    refine lv_goto (tgt := 38) hx hb dX12_isTwice_34 (by decide) ?_
    exact blk38 x1 k4 hk4 x3 s0 (1 : Int32) _ _ _ _ hW (lv_sub hl [0, 1, 2] rfl) h
  have blk4 : ∀ (x1 : Int32) (n : Nat) (x2 : Int32) (x3 : Int32) (σ : St) (H : Heap) (locs : List Loc) (ls : Array Slot), xW D KA layR stR ad ids (xA ad ids s.heap.size) s.heap σ H locs → lv_has ls 4 [(0, .ref (ad 0)), (1, .int x1), (2, .int x2), (3, .int x3)] → wX12_isTwice_4 post x1 n x2 x3 σ → W p l e rmX12_isTwice s m args below meth c H locs 0 0 Q (F0 m 4 ls []) := by
    intro   x1 n
    induction n with
    | zero => intro x2 x3 σ H locs ls hW hl h; exact (h : False).elim
    | succ n ih =>
      intro x2 x3 σ H locs ls hW hl h
      have hk4 : ∀ (x2 : Int32) (x3 : Int32) (σ : St) (H : Heap) (locs : List Loc) (ls : Array Slot), xW D KA layR stR ad ids (xA ad ids s.heap.size) s.heap σ H locs → lv_has ls 4 [(0, .ref (ad 0)), (1, .int x1), (2, .int x2), (3, .int x3)] → (wX12_isTwice_4 post x1 n) x2 x3 σ → W p l e rmX12_isTwice s m args below meth c H locs 0 0 Q (F0 m 4 ls []) := fun x2 x3 σ H locs ls hW hl h => ih x2 x3 σ H locs ls hW hl h
      rw [wX12_isTwice_4_s] at h
      try dsimp only at h
      generalize wX12_isTwice_4 post x1 n = k4 at h hk4
      refine lv_iload_n hx hb dX12_isTwice_4 rfl (lv_at hl 3 rfl) ?_
      refine lv_aload_n hx hb dX12_isTwice_5 rfl (lv_at hl 0 rfl) ?_
      refine xgX12_28 hx hb hts hown hK hW 0 hcX12_isTwice_X12 (hI 0 (by decide)) lR_0 (hts _ hwX12_isTwice_0) dX12_isTwice_6 ?_
      refine lv_icmp_ge (tgt := 46) hx hb dX12_isTwice_9 (by decide) (fun c4 => ?_) (fun c4 => ?_)
      · have h := h.1 c4
        refine lv_iload_n hx hb dX12_isTwice_46 rfl (lv_at hl 2 rfl) ?_
        refine lv_iconst (v := 1) hx hb dX12_isTwice_47 (by decide) ?_
        refine lv_icmp_le (tgt := 55) hx hb dX12_isTwice_48 (by decide) (fun c5 => ?_) (fun c5 => ?_)
        · have h := h.1 c5
          refine lv_iconst (v := 0) hx hb dX12_isTwice_55 (by decide) ?_
          exact blk56   (0 : Int32) _ _ _ _ hW (lv_sub hl [] rfl) h
        · have h := h.2 c5
          refine lv_iconst (v := 1) hx hb dX12_isTwice_51 (by decide) ?_
          refine lv_goto (tgt := 56) hx hb dX12_isTwice_52 (by decide) ?_
          exact blk56   (1 : Int32) _ _ _ _ hW (lv_sub hl [] rfl) h
      · have h := h.2 c4
        refine lv_iload_n hx hb dX12_isTwice_12 rfl (lv_at hl 2 rfl) ?_
        refine lv_aload_n hx hb dX12_isTwice_13 rfl (lv_at hl 0 rfl) ?_
        refine xgX12_24r hx hb hts hown hK hW 0 hcX12_isTwice_X12 (hI 0 (by decide)) lR_0 (hts _ hwX12_isTwice_1) (sR_0_24 _) dX12_isTwice_14 ?_
        refine lv_iload_n hx hb dX12_isTwice_17 rfl (lv_at hl 3 rfl) ?_
        obtain ⟨hi6, h⟩ := h
        refine x_iald hx hb hK hW 16 (hI 16 (by decide)) lR_16 hi6 dX12_isTwice_18 ?_
        refine lv_iload_n hx hb dX12_isTwice_19 rfl (lv_at hl 1 rfl) ?_
        refine lv_icmp_eq (tgt := 33) hx hb dX12_isTwice_20 (by decide) (fun c7 => ?_) (fun c7 => ?_)
        · have h := h.1 c7
          exact blk33 x1 k4 hk4 x3 x2 _ _ _ _ hW (lv_sub hl [0, 1, 3] rfl) h
        · have h := h.2 c7
          refine lv_aload_n hx hb dX12_isTwice_23 rfl (lv_at hl 0 rfl) ?_
          refine xgX12_25r hx hb hts hown hK hW 0 hcX12_isTwice_X12 (hI 0 (by decide)) lR_0 (hts _ hwX12_isTwice_2) (sR_0_25 _) dX12_isTwice_24 ?_
          refine lv_iload_n hx hb dX12_isTwice_27 rfl (lv_at hl 3 rfl) ?_
          refine x_iald hx hb hK hW 17 (hI 17 (by decide)) lR_17 hi6 dX12_isTwice_28 ?_
          refine lv_iload_n hx hb dX12_isTwice_29 rfl (lv_at hl 1 rfl) ?_
          refine lv_icmp_ne (tgt := 37) hx hb dX12_isTwice_30 (by decide) (fun c9 => ?_) (fun c9 => ?_)
          · have h := h.1 c9
            refine lv_iconst (v := 0) hx hb dX12_isTwice_37 (by decide) ?_
            exact blk38 x1 k4 hk4 x3 x2 (0 : Int32) _ _ _ _ hW (lv_sub hl [0, 1, 3] rfl) h
          · have h := h.2 c9
            exact blk33 x1 k4 hk4 x3 x2 _ _ _ _ hW (lv_sub hl [0, 1, 3] rfl) h
  have main : ∀ (H : Heap) (locs : List Loc) (ls : Array Slot), xW D KA layR stR ad ids (xA ad ids s.heap.size) s.heap σ H locs → lv_has ls 4 [(0, .ref (ad 0)), (1, .int a1)] → W p l e rmX12_isTwice s m args below meth c H locs 0 0 Q (F0 m 0 ls []) := by
    intro H locs ls hW hl
    unfold wX12_isTwice at h
    refine lv_iconst (v := 0) hx hb dX12_isTwice_0 (by decide) ?_
    refine lv_istore_n (lv' := [(2, .int (0 : Int32)), (0, .ref (ad 0)), (1, .int a1)]) hx hb dX12_isTwice_1 rfl hl (by decide) rfl (fun ls hl => ?_)
    refine lv_iconst (v := 0) hx hb dX12_isTwice_2 (by decide) ?_
    refine lv_istore_n (lv' := [(3, .int (0 : Int32)), (2, .int (0 : Int32)), (0, .ref (ad 0)), (1, .int a1)]) hx hb dX12_isTwice_3 rfl hl (by decide) rfl (fun ls hl => ?_)
    obtain ⟨n, h⟩ := h
    exact blk4   a1 n (0 : Int32) (0 : Int32) _ _ _ _ hW (lv_sub hl [2, 3, 1, 0] rfl) h
  exact main _ _ _ hW hl
theorem hwX12_anyTwice_0 : (.fieldLink RX12 166 "FortyBeltsModel" "belts" "I" : Cond) ∈ wsX12_anyTwice := (List.mem_cons_of_mem _ (List.mem_append_left _ (List.mem_of_getElem? (i := 1) rfl)))
theorem hwX12_anyTwice_1 : (.fieldLink RX12 59 "FortyBeltsModel" "drumA" "[I" : Cond) ∈ wsX12_anyTwice := (List.mem_cons_of_mem _ (List.mem_append_left _ (List.mem_of_getElem? (i := 2) rfl)))
theorem hwX12_anyTwice_2 : (.fieldLink RX12 62 "FortyBeltsModel" "drumB" "[I" : Cond) ∈ wsX12_anyTwice := (List.mem_cons_of_mem _ (List.mem_append_left _ (List.mem_of_getElem? (i := 3) rfl)))
theorem hwX12_anyTwice_3 : (.fieldLink RX12 163 "FortyBeltsModel" "drumMany" "I" : Cond) ∈ wsX12_anyTwice := (List.mem_cons_of_mem _ (List.mem_append_left _ (List.mem_of_getElem? (i := 0) rfl)))
theorem hcX12_anyTwice_X12 : ∀ w ∈ wsX120, w ∈ wsX12_anyTwice := fun _ h => (List.mem_cons_of_mem _ (List.mem_append_right _ h))
set_option maxHeartbeats 4000000 in
set_option maxRecDepth 100000 in
theorem J_X12_anyTwice {D : va_G} {KA : Nat → ClassId} {zs : ZS} {ad : Nat → Nat} {ids : List Nat} {sz : Nat} (l : Launch) (hI : ∀ c, c < 35 → c ∈ ids)   {σ : St} {post : Int32 → St → Prop} (h : wX12_anyTwice   σ post) : Met l yX12_anyTwice wsX12_anyTwice rmX12_anyTwice (va_Pc [.ref (ad 0)] (xIn D KA zs layR stR ad ids sz σ)) (va_Qi post (xOut D KA layR stR ad ids) (xA ad ids sz)) 0 0 (xA ad ids sz) := by
  refine Met.ofW (cc := cX12_anyTwice) (maxL := 3) (ret := (some .boolean)) (by decide) rfl ?_
  intro p e s m args below meth c s₁ B hml hv
  obtain ⟨hav, hsz, hK, hZ, hP, hD⟩ := hv
  have hx := B.exec
  have hb := B.bytes
  have hr := B.returns
  have hts := atoms_spec (ws := wsX12_anyTwice) B.pre
  have hown : s.vm.findClass RX12 = some m.cls := findClass_of_methodNamed B.named
  have hlocks := B.notSynchronized
  subst hsz
  have hA : ∀ q : Nat, s.heap.size ≤ q → xA ad ids s.heap.size q := fun q h => Or.inr h
  have hW : xW D KA layR stR ad ids (xA ad ids s.heap.size) s.heap σ s.heap [] := ⟨hP, xA_D (D := D) hD, va_S.rf⟩
  have kr : ∀ (v : Int32) (σ : St) (H : Heap) (locs : List Loc) (ls : Array Slot) (pc : Nat), xW D KA layR stR ad ids (xA ad ids s.heap.size) s.heap σ H locs → isB v → post v σ → decode cX12_anyTwice pc = .ok (.ireturn, 1) → W p l e rmX12_anyTwice s m args below meth c H locs 0 0 (MQ below (va_Qi post (xOut D KA layR stR ad ids) (xA ad ids s.heap.size)) args s 0 0 (xA ad ids s.heap.size)) (F0 m pc ls [.int v]) := fun v σ H locs ls pc hW hz h hd => x_zret hx hb hr hlocks hW hz h hd
  have hl := lv_entry ([.ref (ad 0)]) (n := 3) (Nat.le_of_ble_eq_true rfl)
  rw [show entryFrame m args 3 = entryFrame m ([.ref (ad 0)] : List Value).toArray 3 from by rw [hav]]
  rw [lg_entry_eq]
  generalize (lg_sl ([.ref (ad 0)]) ++ List.replicate (3 - (lg_sl ([.ref (ad 0)])).length) Slot.unset).toArray = ls at hl ⊢
  have hl : lv_has ls 3 [(0, .ref (ad 0))] := hl
  show W p l e rmX12_anyTwice s m args below meth c s.heap [] 0 0 _ _
  generalize MQ below (va_Qi post (xOut D KA layR stR ad ids) (xA ad ids s.heap.size)) args s 0 0 (xA ad ids s.heap.size) = Q at kr ⊢
  have blk70 : ∀ (k38 : Int32 → Int32 → St → Prop) (hk38 : ∀ (x1 : Int32) (x2 : Int32) (σ : St) (H : Heap) (locs : List Loc) (ls : Array Slot), xW D KA layR stR ad ids (xA ad ids s.heap.size) s.heap σ H locs → lv_has ls 3 [(0, .ref (ad 0)), (1, .int x1), (2, .int x2)] → k38 x1 x2 σ → W p l e rmX12_anyTwice s m args below meth c H locs 0 0 Q (F0 m 38 ls [])) (x2 : Int32) (s0 : Int32) (σ : St) (H : Heap) (locs : List Loc) (ls : Array Slot), xW D KA layR stR ad ids (xA ad ids s.heap.size) s.heap σ H locs → lv_has ls 3 [(0, .ref (ad 0)), (2, .int x2)] → wX12_anyTwice_70 k38 post x2 s0 σ → W p l e rmX12_anyTwice s m args below meth c H locs 0 0 Q (F0 m 70 ls [.int s0]) := by
    intro  k38 hk38 x2 s0 σ H locs ls hW hl h
    unfold wX12_anyTwice_70 at h
    refine lv_istore_n (lv' := [(1, .int s0), (0, .ref (ad 0)), (2, .int x2)]) hx hb dX12_anyTwice_70 rfl hl (by decide) rfl (fun ls hl => ?_)
    obtain ⟨v1, hv1⟩ : ∃ y : Int32, y = x2 + (1 : Int32) := ⟨_, rfl⟩
    have h := h v1 hv1
    refine lv_iinc (v := v1) (lv' := [(2, .int v1), (1, .int s0), (0, .ref (ad 0))]) hx hb dX12_anyTwice_71 hl (k := 2) rfl (by rw [hv1]; rfl) (by decide) rfl (fun ls hl => ?_)
    refine lv_goto (tgt := 38) hx hb dX12_anyTwice_74 (by decide) ?_
    exact hk38 s0 v1 _ _ _ _ hW (lv_sub hl [2, 1, 0] rfl) h
  have blk65 : ∀ (k38 : Int32 → Int32 → St → Prop) (hk38 : ∀ (x1 : Int32) (x2 : Int32) (σ : St) (H : Heap) (locs : List Loc) (ls : Array Slot), xW D KA layR stR ad ids (xA ad ids s.heap.size) s.heap σ H locs → lv_has ls 3 [(0, .ref (ad 0)), (1, .int x1), (2, .int x2)] → k38 x1 x2 σ → W p l e rmX12_anyTwice s m args below meth c H locs 0 0 Q (F0 m 38 ls [])) (x2 : Int32) (σ : St) (H : Heap) (locs : List Loc) (ls : Array Slot), xW D KA layR stR ad ids (xA ad ids s.heap.size) s.heap σ H locs → lv_has ls 3 [(0, .ref (ad 0)), (2, .int x2)] → wX12_anyTwice_65 k38 post x2 σ → W p l e rmX12_anyTwice s m args below meth c H locs 0 0 Q (F0 m 65 ls []) := by
    intro  k38 hk38 x2 σ H locs ls hW hl h
    unfold wX12_anyTwice_65 at h
    refine lv_iconst (v := 1) hx hb dX12_anyTwice_65 (by decide) ?_
    refine lv_goto (tgt := 70) hx hb dX12_anyTwice_66 (by decide) ?_
    exact blk70  k38 hk38 x2 (1 : Int32) _ _ _ _ hW (lv_sub hl [0, 1] rfl) h
  have blk38 : ∀ (n : Nat) (x1 : Int32) (x2 : Int32) (σ : St) (H : Heap) (locs : List Loc) (ls : Array Slot), xW D KA layR stR ad ids (xA ad ids s.heap.size) s.heap σ H locs → lv_has ls 3 [(0, .ref (ad 0)), (1, .int x1), (2, .int x2)] → wX12_anyTwice_38 post  n x1 x2 σ → W p l e rmX12_anyTwice s m args below meth c H locs 0 0 Q (F0 m 38 ls []) := by
    intro    n
    induction n with
    | zero => intro x1 x2 σ H locs ls hW hl h; exact (h : False).elim
    | succ n ih =>
      intro x1 x2 σ H locs ls hW hl h
      have hk38 : ∀ (x1 : Int32) (x2 : Int32) (σ : St) (H : Heap) (locs : List Loc) (ls : Array Slot), xW D KA layR stR ad ids (xA ad ids s.heap.size) s.heap σ H locs → lv_has ls 3 [(0, .ref (ad 0)), (1, .int x1), (2, .int x2)] → (wX12_anyTwice_38 post  n) x1 x2 σ → W p l e rmX12_anyTwice s m args below meth c H locs 0 0 Q (F0 m 38 ls []) := fun x1 x2 σ H locs ls hW hl h => ih x1 x2 σ H locs ls hW hl h
      rw [wX12_anyTwice_38_s] at h
      try dsimp only at h
      generalize wX12_anyTwice_38 post  n = k38 at h hk38
      refine lv_iload_n hx hb dX12_anyTwice_38 rfl (lv_at hl 2 rfl) ?_
      refine lv_aload_n hx hb dX12_anyTwice_39 rfl (lv_at hl 0 rfl) ?_
      refine xgX12_28 hx hb hts hown hK hW 0 hcX12_anyTwice_X12 (hI 0 (by decide)) lR_0 (hts _ hwX12_anyTwice_0) dX12_anyTwice_40 ?_
      refine lv_icmp_ge (tgt := 77) hx hb dX12_anyTwice_43 (by decide) (fun c2 => ?_) (fun c2 => ?_)
      · have h := h.1 c2
        refine lv_iload_n hx hb dX12_anyTwice_77 rfl (lv_at hl 1 rfl) ?_
        obtain ⟨hz3, h⟩ := h
        exact kr _ _ _ _ _ _ hW hz3 h dX12_anyTwice_78
      · have h := h.2 c2
        refine lv_iload_n hx hb dX12_anyTwice_46 rfl (lv_at hl 1 rfl) ?_
        refine lv_if_ne (tgt := 65) hx hb dX12_anyTwice_47 (by decide) (fun c4 => ?_) (fun c4 => ?_)
        · have h := h.1 c4
          exact blk65  k38 hk38 x2 _ _ _ _ hW (lv_sub hl [0, 2] rfl) h
        · have h := h.2 c4
          refine lv_aload_n hx hb dX12_anyTwice_50 rfl (lv_at hl 0 rfl) ?_
          refine xgX12_24r hx hb hts hown hK hW 0 hcX12_anyTwice_X12 (hI 0 (by decide)) lR_0 (hts _ hwX12_anyTwice_1) (sR_0_24 _) dX12_anyTwice_51 ?_
          refine lv_iload_n hx hb dX12_anyTwice_54 rfl (lv_at hl 2 rfl) ?_
          obtain ⟨hi5, h⟩ := h
          refine x_iald hx hb hK hW 16 (hI 16 (by decide)) lR_16 hi5 dX12_anyTwice_55 ?_
          refine lv_aload_n hx hb dX12_anyTwice_56 rfl (lv_at hl 0 rfl) ?_
          refine xgX12_25r hx hb hts hown hK hW 0 hcX12_anyTwice_X12 (hI 0 (by decide)) lR_0 (hts _ hwX12_anyTwice_2) (sR_0_25 _) dX12_anyTwice_57 ?_
          refine lv_iload_n hx hb dX12_anyTwice_60 rfl (lv_at hl 2 rfl) ?_
          refine x_iald hx hb hK hW 17 (hI 17 (by decide)) lR_17 hi5 dX12_anyTwice_61 ?_
          refine lv_icmp_ne (tgt := 69) hx hb dX12_anyTwice_62 (by decide) (fun c7 => ?_) (fun c7 => ?_)
          · have h := h.1 c7
            refine lv_iconst (v := 0) hx hb dX12_anyTwice_69 (by decide) ?_
            exact blk70  k38 hk38 x2 (0 : Int32) _ _ _ _ hW (lv_sub hl [0, 2] rfl) h
          · have h := h.2 c7
            exact blk65  k38 hk38 x2 _ _ _ _ hW (lv_sub hl [0, 2] rfl) h
  have blk29 : ∀ (k4 : Int32 → Int32 → St → Prop) (hk4 : ∀ (x1 : Int32) (x2 : Int32) (σ : St) (H : Heap) (locs : List Loc) (ls : Array Slot), xW D KA layR stR ad ids (xA ad ids s.heap.size) s.heap σ H locs → lv_has ls 3 [(0, .ref (ad 0)), (1, .int x1), (2, .int x2)] → k4 x1 x2 σ → W p l e rmX12_anyTwice s m args below meth c H locs 0 0 Q (F0 m 4 ls [])) (x2 : Int32) (s0 : Int32) (σ : St) (H : Heap) (locs : List Loc) (ls : Array Slot), xW D KA layR stR ad ids (xA ad ids s.heap.size) s.heap σ H locs → lv_has ls 3 [(0, .ref (ad 0)), (2, .int x2)] → wX12_anyTwice_29 k4 post x2 s0 σ → W p l e rmX12_anyTwice s m args below meth c H locs 0 0 Q (F0 m 29 ls [.int s0]) := by
    intro  k4 hk4 x2 s0 σ H locs ls hW hl h
    unfold wX12_anyTwice_29 at h
    refine lv_istore_n (lv' := [(1, .int s0), (0, .ref (ad 0)), (2, .int x2)]) hx hb dX12_anyTwice_29 rfl hl (by decide) rfl (fun ls hl => ?_)
    obtain ⟨v8, hv8⟩ : ∃ y : Int32, y = x2 + (1 : Int32) := ⟨_, rfl⟩
    have h := h v8 hv8
    refine lv_iinc (v := v8) (lv' := [(2, .int v8), (1, .int s0), (0, .ref (ad 0))]) hx hb dX12_anyTwice_30 hl (k := 2) rfl (by rw [hv8]; rfl) (by decide) rfl (fun ls hl => ?_)
    refine lv_goto (tgt := 4) hx hb dX12_anyTwice_33 (by decide) ?_
    exact hk4 s0 v8 _ _ _ _ hW (lv_sub hl [2, 1, 0] rfl) h
  have blk24 : ∀ (k4 : Int32 → Int32 → St → Prop) (hk4 : ∀ (x1 : Int32) (x2 : Int32) (σ : St) (H : Heap) (locs : List Loc) (ls : Array Slot), xW D KA layR stR ad ids (xA ad ids s.heap.size) s.heap σ H locs → lv_has ls 3 [(0, .ref (ad 0)), (1, .int x1), (2, .int x2)] → k4 x1 x2 σ → W p l e rmX12_anyTwice s m args below meth c H locs 0 0 Q (F0 m 4 ls [])) (x2 : Int32) (σ : St) (H : Heap) (locs : List Loc) (ls : Array Slot), xW D KA layR stR ad ids (xA ad ids s.heap.size) s.heap σ H locs → lv_has ls 3 [(0, .ref (ad 0)), (2, .int x2)] → wX12_anyTwice_24 k4 post x2 σ → W p l e rmX12_anyTwice s m args below meth c H locs 0 0 Q (F0 m 24 ls []) := by
    intro  k4 hk4 x2 σ H locs ls hW hl h
    unfold wX12_anyTwice_24 at h
    refine lv_iconst (v := 1) hx hb dX12_anyTwice_24 (by decide) ?_
    refine lv_goto (tgt := 29) hx hb dX12_anyTwice_25 (by decide) ?_
    exact blk29  k4 hk4 x2 (1 : Int32) _ _ _ _ hW (lv_sub hl [0, 1] rfl) h
  have blk4 : ∀ (n : Nat) (x1 : Int32) (x2 : Int32) (σ : St) (H : Heap) (locs : List Loc) (ls : Array Slot), xW D KA layR stR ad ids (xA ad ids s.heap.size) s.heap σ H locs → lv_has ls 3 [(0, .ref (ad 0)), (1, .int x1), (2, .int x2)] → wX12_anyTwice_4 post  n x1 x2 σ → W p l e rmX12_anyTwice s m args below meth c H locs 0 0 Q (F0 m 4 ls []) := by
    intro    n
    induction n with
    | zero => intro x1 x2 σ H locs ls hW hl h; exact (h : False).elim
    | succ n ih =>
      intro x1 x2 σ H locs ls hW hl h
      have hk4 : ∀ (x1 : Int32) (x2 : Int32) (σ : St) (H : Heap) (locs : List Loc) (ls : Array Slot), xW D KA layR stR ad ids (xA ad ids s.heap.size) s.heap σ H locs → lv_has ls 3 [(0, .ref (ad 0)), (1, .int x1), (2, .int x2)] → (wX12_anyTwice_4 post  n) x1 x2 σ → W p l e rmX12_anyTwice s m args below meth c H locs 0 0 Q (F0 m 4 ls []) := fun x1 x2 σ H locs ls hW hl h => ih x1 x2 σ H locs ls hW hl h
      rw [wX12_anyTwice_4_s] at h
      try dsimp only at h
      generalize wX12_anyTwice_4 post  n = k4 at h hk4
      refine lv_iload_n hx hb dX12_anyTwice_4 rfl (lv_at hl 2 rfl) ?_
      refine lv_aload_n hx hb dX12_anyTwice_5 rfl (lv_at hl 0 rfl) ?_
      refine xgX12_20 hx hb hts hown hK hW 0 hcX12_anyTwice_X12 (hI 0 (by decide)) lR_0 (hts _ hwX12_anyTwice_3) dX12_anyTwice_6 ?_
      refine lv_icmp_ge (tgt := 36) hx hb dX12_anyTwice_9 (by decide) (fun c9 => ?_) (fun c9 => ?_)
      · have h := h.1 c9
        refine lv_iconst (v := 0) hx hb dX12_anyTwice_36 (by decide) ?_
        refine lv_istore_n (lv' := [(2, .int (0 : Int32)), (0, .ref (ad 0)), (1, .int x1)]) hx hb dX12_anyTwice_37 rfl hl (by decide) rfl (fun ls hl => ?_)
        obtain ⟨n, h⟩ := h
        exact blk38    n x1 (0 : Int32) _ _ _ _ hW (lv_sub hl [1, 2, 0] rfl) h
      · have h := h.2 c9
        refine lv_iload_n hx hb dX12_anyTwice_12 rfl (lv_at hl 1 rfl) ?_
        refine lv_if_ne (tgt := 24) hx hb dX12_anyTwice_13 (by decide) (fun c11 => ?_) (fun c11 => ?_)
        · have h := h.1 c11
          exact blk24  k4 hk4 x2 _ _ _ _ hW (lv_sub hl [0, 2] rfl) h
        · have h := h.2 c11
          refine lv_aload_n hx hb dX12_anyTwice_16 rfl (lv_at hl 0 rfl) ?_
          refine lv_iload_n hx hb dX12_anyTwice_17 rfl (lv_at hl 2 rfl) ?_
          refine x_calli (va_runV (As := [.int x2]) (rest := []) ⟨hx, hb, hml, hown, hts⟩ (J_X12_isTwice l hI h) (cwV 1 hts gX12_anyTwice_X12_isTwice rfl rfl rfl hdV_X12_isTwice ⟨Nat.le_of_ble_eq_true rfl, Nat.le_of_ble_eq_true rfl⟩) (x_preV (ci := 12) hK hZ hA hW (hI 0 (by decide)) lR_0 rfl) rfl rfl hl.1 rfl (lv_room (Nat.le_of_ble_eq_true rfl)) dX12_anyTwice_18 ⟨Nat.zero_le _, Nat.zero_le _⟩) hW hA (fun r13 σ12 H locs h hW => ?_)
          try dsimp only at h
          refine lv_if_eq (tgt := 28) hx hb dX12_anyTwice_21 (by decide) (fun c14 => ?_) (fun c14 => ?_)
          · have h := h.1 c14
            refine lv_iconst (v := 0) hx hb dX12_anyTwice_28 (by decide) ?_
            exact blk29  k4 hk4 x2 (0 : Int32) _ _ _ _ hW (lv_sub hl [0, 2] rfl) h
          · have h := h.2 c14
            exact blk24  k4 hk4 x2 _ _ _ _ hW (lv_sub hl [0, 2] rfl) h
  have main : ∀ (H : Heap) (locs : List Loc) (ls : Array Slot), xW D KA layR stR ad ids (xA ad ids s.heap.size) s.heap σ H locs → lv_has ls 3 [(0, .ref (ad 0))] → W p l e rmX12_anyTwice s m args below meth c H locs 0 0 Q (F0 m 0 ls []) := by
    intro H locs ls hW hl
    unfold wX12_anyTwice at h
    refine lv_iconst (v := 0) hx hb dX12_anyTwice_0 (by decide) ?_
    refine lv_istore_n (lv' := [(1, .int (0 : Int32)), (0, .ref (ad 0))]) hx hb dX12_anyTwice_1 rfl hl (by decide) rfl (fun ls hl => ?_)
    refine lv_iconst (v := 0) hx hb dX12_anyTwice_2 (by decide) ?_
    refine lv_istore_n (lv' := [(2, .int (0 : Int32)), (1, .int (0 : Int32)), (0, .ref (ad 0))]) hx hb dX12_anyTwice_3 rfl hl (by decide) rfl (fun ls hl => ?_)
    obtain ⟨n, h⟩ := h
    exact blk4    n (0 : Int32) (0 : Int32) _ _ _ _ hW (lv_sub hl [2, 1, 0] rfl) h
  exact main _ _ _ hW hl
theorem hwX12_back_0 : (.fieldLink RX12 459 "FortyBeltsModel" "imageMachines" "I" : Cond) ∈ wsX12_back := (List.mem_cons_of_mem _ (List.mem_append_left _ (List.mem_of_getElem? (i := 14) rfl)))
theorem hwX12_back_1 : (.fieldLink RX12 166 "FortyBeltsModel" "belts" "I" : Cond) ∈ wsX12_back := (List.mem_cons_of_mem _ (List.mem_append_left _ (List.mem_of_getElem? (i := 19) rfl)))
theorem hwX12_back_2 : (.fieldLink RX12 32 "FortyBeltsModel" "load" "[I" : Cond) ∈ wsX12_back := (List.mem_cons_of_mem _ (List.mem_append_left _ (List.mem_of_getElem? (i := 15) rfl)))
theorem hwX12_back_3 : (.fieldLink RX12 105 "FortyBeltsModel" "imageLoad" "[I" : Cond) ∈ wsX12_back := (List.mem_cons_of_mem _ (List.mem_append_left _ (List.mem_of_getElem? (i := 16) rfl)))
theorem hwX12_back_4 : (.fieldLink RX12 44 "FortyBeltsModel" "isRun" "[I" : Cond) ∈ wsX12_back := (List.mem_cons_of_mem _ (List.mem_append_left _ (List.mem_of_getElem? (i := 17) rfl)))
theorem hwX12_back_5 : (.fieldLink RX12 108 "FortyBeltsModel" "imageRun" "[I" : Cond) ∈ wsX12_back := (List.mem_cons_of_mem _ (List.mem_append_left _ (List.mem_of_getElem? (i := 18) rfl)))
theorem hwX12_back_6 : (.fieldLink RX12 456 "FortyBeltsModel" "imageBelts" "I" : Cond) ∈ wsX12_back := (List.mem_cons_of_mem _ (List.mem_append_left _ (List.mem_of_getElem? (i := 7) rfl)))
theorem hwX12_back_7 : (.fieldLink RX12 59 "FortyBeltsModel" "drumA" "[I" : Cond) ∈ wsX12_back := (List.mem_cons_of_mem _ (List.mem_append_left _ (List.mem_of_getElem? (i := 8) rfl)))
theorem hwX12_back_8 : (.fieldLink RX12 96 "FortyBeltsModel" "imageA" "[I" : Cond) ∈ wsX12_back := (List.mem_cons_of_mem _ (List.mem_append_left _ (List.mem_of_getElem? (i := 9) rfl)))
theorem hwX12_back_9 : (.fieldLink RX12 62 "FortyBeltsModel" "drumB" "[I" : Cond) ∈ wsX12_back := (List.mem_cons_of_mem _ (List.mem_append_left _ (List.mem_of_getElem? (i := 10) rfl)))
theorem hwX12_back_10 : (.fieldLink RX12 99 "FortyBeltsModel" "imageB" "[I" : Cond) ∈ wsX12_back := (List.mem_cons_of_mem _ (List.mem_append_left _ (List.mem_of_getElem? (i := 11) rfl)))
theorem hwX12_back_11 : (.fieldLink RX12 68 "FortyBeltsModel" "isOn" "[I" : Cond) ∈ wsX12_back := (List.mem_cons_of_mem _ (List.mem_append_left _ (List.mem_of_getElem? (i := 12) rfl)))
theorem hwX12_back_12 : (.fieldLink RX12 102 "FortyBeltsModel" "imageOn" "[I" : Cond) ∈ wsX12_back := (List.mem_cons_of_mem _ (List.mem_append_left _ (List.mem_of_getElem? (i := 13) rfl)))
theorem hwX12_back_13 : (.fieldLink RX12 453 "FortyBeltsModel" "hasImage" "Z" : Cond) ∈ wsX12_back := (List.mem_cons_of_mem _ (List.mem_append_left _ (List.mem_of_getElem? (i := 0) rfl)))
theorem hwX12_back_14 : (.fieldLink RX12 462 "FortyBeltsModel" "imageTurns" "I" : Cond) ∈ wsX12_back := (List.mem_cons_of_mem _ (List.mem_append_left _ (List.mem_of_getElem? (i := 1) rfl)))
theorem hwX12_back_15 : (.fieldLink RX12 145 "FortyBeltsModel" "engineTurns" "I" : Cond) ∈ wsX12_back := (List.mem_cons_of_mem _ (List.mem_append_left _ (List.mem_of_getElem? (i := 2) rfl)))
theorem hwX12_back_16 : (.fieldLink RX12 465 "FortyBeltsModel" "imagePower" "I" : Cond) ∈ wsX12_back := (List.mem_cons_of_mem _ (List.mem_append_left _ (List.mem_of_getElem? (i := 3) rfl)))
theorem hwX12_back_17 : (.fieldLink RX12 148 "FortyBeltsModel" "power" "I" : Cond) ∈ wsX12_back := (List.mem_cons_of_mem _ (List.mem_append_left _ (List.mem_of_getElem? (i := 4) rfl)))
theorem hwX12_back_18 : (.fieldLink RX12 468 "FortyBeltsModel" "imageRule" "I" : Cond) ∈ wsX12_back := (List.mem_cons_of_mem _ (List.mem_append_left _ (List.mem_of_getElem? (i := 5) rfl)))
theorem hwX12_back_19 : (.fieldLink RX12 236 "FortyBeltsModel" "rule" "I" : Cond) ∈ wsX12_back := (List.mem_cons_of_mem _ (List.mem_append_left _ (List.mem_of_getElem? (i := 6) rfl)))
theorem hcX12_back_X12 : ∀ w ∈ wsX120, w ∈ wsX12_back := fun _ h => (List.mem_cons_of_mem _ (List.mem_append_right _ h))
set_option maxHeartbeats 4000000 in
set_option maxRecDepth 100000 in
theorem J_X12_back {D : va_G} {KA : Nat → ClassId} {zs : ZS} {ad : Nat → Nat} {ids : List Nat} {sz : Nat} (l : Launch) (hI : ∀ c, c < 35 → c ∈ ids)   {σ : St} {post : Int32 → St → Prop} (h : wX12_back   σ post) : Met l yX12_back wsX12_back rmX12_back (va_Pc [.ref (ad 0)] (xIn D KA zs layR stR ad ids sz σ)) (va_Qi post (xOut D KA layR stR ad ids) (xA ad ids sz)) 0 0 (xA ad ids sz) := by
  refine Met.ofW (cc := cX12_back) (maxL := 2) (ret := (some .int)) (by decide) rfl ?_
  intro p e s m args below meth c s₁ B hml hv
  obtain ⟨hav, hsz, hK, hZ, hP, hD⟩ := hv
  have hx := B.exec
  have hb := B.bytes
  have hr := B.returns
  have hts := atoms_spec (ws := wsX12_back) B.pre
  have hown : s.vm.findClass RX12 = some m.cls := findClass_of_methodNamed B.named
  have hlocks := B.notSynchronized
  subst hsz
  have hA : ∀ q : Nat, s.heap.size ≤ q → xA ad ids s.heap.size q := fun q h => Or.inr h
  have hW : xW D KA layR stR ad ids (xA ad ids s.heap.size) s.heap σ s.heap [] := ⟨hP, xA_D (D := D) hD, va_S.rf⟩
  have kr : ∀ (v : Int32) (σ : St) (H : Heap) (locs : List Loc) (ls : Array Slot) (pc : Nat), xW D KA layR stR ad ids (xA ad ids s.heap.size) s.heap σ H locs → post v σ → decode cX12_back pc = .ok (.ireturn, 1) → W p l e rmX12_back s m args below meth c H locs 0 0 (MQ below (va_Qi post (xOut D KA layR stR ad ids) (xA ad ids s.heap.size)) args s 0 0 (xA ad ids s.heap.size)) (F0 m pc ls [.int v]) := fun v σ H locs ls pc hW h hd => x_iret hx hb hr hlocks hW h hd
  have hl := lv_entry ([.ref (ad 0)]) (n := 2) (Nat.le_of_ble_eq_true rfl)
  rw [show entryFrame m args 2 = entryFrame m ([.ref (ad 0)] : List Value).toArray 2 from by rw [hav]]
  rw [lg_entry_eq]
  generalize (lg_sl ([.ref (ad 0)]) ++ List.replicate (2 - (lg_sl ([.ref (ad 0)])).length) Slot.unset).toArray = ls at hl ⊢
  have hl : lv_has ls 2 [(0, .ref (ad 0))] := hl
  show W p l e rmX12_back s m args below meth c s.heap [] 0 0 _ _
  generalize MQ below (va_Qi post (xOut D KA layR stR ad ids) (xA ad ids s.heap.size)) args s 0 0 (xA ad ids s.heap.size) = Q at kr ⊢
  have blk88 : ∀ (n : Nat) (x1 : Int32) (σ : St) (H : Heap) (locs : List Loc) (ls : Array Slot), xW D KA layR stR ad ids (xA ad ids s.heap.size) s.heap σ H locs → lv_has ls 2 [(0, .ref (ad 0)), (1, .int x1)] → wX12_back_88 post  n x1 σ → W p l e rmX12_back s m args below meth c H locs 0 0 Q (F0 m 88 ls []) := by
    intro    n
    induction n with
    | zero => intro x1 σ H locs ls hW hl h; exact (h : False).elim
    | succ n ih =>
      intro x1 σ H locs ls hW hl h
      have hk88 : ∀ (x1 : Int32) (σ : St) (H : Heap) (locs : List Loc) (ls : Array Slot), xW D KA layR stR ad ids (xA ad ids s.heap.size) s.heap σ H locs → lv_has ls 2 [(0, .ref (ad 0)), (1, .int x1)] → (wX12_back_88 post  n) x1 σ → W p l e rmX12_back s m args below meth c H locs 0 0 Q (F0 m 88 ls []) := fun x1 σ H locs ls hW hl h => ih x1 σ H locs ls hW hl h
      rw [wX12_back_88_s] at h
      try dsimp only at h
      generalize wX12_back_88 post  n = k88 at h hk88
      refine lv_iload_n hx hb dX12_back_88 rfl (lv_at hl 1 rfl) ?_
      refine lv_aload_n hx hb dX12_back_89 rfl (lv_at hl 0 rfl) ?_
      refine xgX12_63 hx hb hts hown hK hW 0 hcX12_back_X12 (hI 0 (by decide)) lR_0 (hts _ hwX12_back_0) dX12_back_90 ?_
      refine lv_icmp_ge (tgt := 126) hx hb dX12_back_93 (by decide) (fun c1 => ?_) (fun c1 => ?_)
      · have h := h.1 c1
        refine lv_aload_n hx hb dX12_back_126 rfl (lv_at hl 0 rfl) ?_
        refine xgX12_28 hx hb hts hown hK hW 0 hcX12_back_X12 (hI 0 (by decide)) lR_0 (hts _ hwX12_back_1) dX12_back_127 ?_
        exact kr _ _ _ _ _ _ hW h dX12_back_130
      · have h := h.2 c1
        refine lv_aload_n hx hb dX12_back_96 rfl (lv_at hl 0 rfl) ?_
        refine xgX12_13r hx hb hts hown hK hW 0 hcX12_back_X12 (hI 0 (by decide)) lR_0 (hts _ hwX12_back_2) (sR_0_13 _) dX12_back_97 ?_
        refine lv_iload_n hx hb dX12_back_100 rfl (lv_at hl 1 rfl) ?_
        refine lv_aload_n hx hb dX12_back_101 rfl (lv_at hl 0 rfl) ?_
        refine xgX12_59r hx hb hts hown hK hW 0 hcX12_back_X12 (hI 0 (by decide)) lR_0 (hts _ hwX12_back_3) (sR_0_59 _) dX12_back_102 ?_
        refine lv_iload_n hx hb dX12_back_105 rfl (lv_at hl 1 rfl) ?_
        obtain ⟨hi2, h⟩ := h
        refine x_iald hx hb hK hW 29 (hI 29 (by decide)) lR_29 hi2 dX12_back_106 ?_
        refine x_iast hx hb hK hW 7 (hI 7 (by decide)) lR_7 hi2 dX12_back_107 (fun σ4 H locs hσ4 hW => ?_)
        have h := h σ4 hσ4
        refine lv_aload_n hx hb dX12_back_108 rfl (lv_at hl 0 rfl) ?_
        refine xgX12_17r hx hb hts hown hK hW 0 hcX12_back_X12 (hI 0 (by decide)) lR_0 (hts _ hwX12_back_4) (sR_0_17 _) dX12_back_109 ?_
        refine lv_iload_n hx hb dX12_back_112 rfl (lv_at hl 1 rfl) ?_
        refine lv_aload_n hx hb dX12_back_113 rfl (lv_at hl 0 rfl) ?_
        refine xgX12_60r hx hb hts hown hK hW 0 hcX12_back_X12 (hI 0 (by decide)) lR_0 (hts _ hwX12_back_5) (sR_0_60 _) dX12_back_114 ?_
        refine lv_iload_n hx hb dX12_back_117 rfl (lv_at hl 1 rfl) ?_
        refine x_iald hx hb hK hW 30 (hI 30 (by decide)) lR_30 hi2 dX12_back_118 ?_
        refine x_iast hx hb hK hW 11 (hI 11 (by decide)) lR_11 hi2 dX12_back_119 (fun σ7 H locs hσ7 hW => ?_)
        have h := h σ7 hσ7
        obtain ⟨v8, hv8⟩ : ∃ y : Int32, y = x1 + (1 : Int32) := ⟨_, rfl⟩
        have h := h v8 hv8
        refine lv_iinc (v := v8) (lv' := [(1, .int v8), (0, .ref (ad 0))]) hx hb dX12_back_120 hl (k := 1) rfl (by rw [hv8]; rfl) (by decide) rfl (fun ls hl => ?_)
        refine lv_goto (tgt := 88) hx hb dX12_back_123 (by decide) ?_
        exact hk88 v8 _ _ _ _ hW (lv_sub hl [1, 0] rfl) h
  have blk36 : ∀ (n : Nat) (x1 : Int32) (σ : St) (H : Heap) (locs : List Loc) (ls : Array Slot), xW D KA layR stR ad ids (xA ad ids s.heap.size) s.heap σ H locs → lv_has ls 2 [(0, .ref (ad 0)), (1, .int x1)] → wX12_back_36 post  n x1 σ → W p l e rmX12_back s m args below meth c H locs 0 0 Q (F0 m 36 ls []) := by
    intro    n
    induction n with
    | zero => intro x1 σ H locs ls hW hl h; exact (h : False).elim
    | succ n ih =>
      intro x1 σ H locs ls hW hl h
      have hk36 : ∀ (x1 : Int32) (σ : St) (H : Heap) (locs : List Loc) (ls : Array Slot), xW D KA layR stR ad ids (xA ad ids s.heap.size) s.heap σ H locs → lv_has ls 2 [(0, .ref (ad 0)), (1, .int x1)] → (wX12_back_36 post  n) x1 σ → W p l e rmX12_back s m args below meth c H locs 0 0 Q (F0 m 36 ls []) := fun x1 σ H locs ls hW hl h => ih x1 σ H locs ls hW hl h
      rw [wX12_back_36_s] at h
      try dsimp only at h
      generalize wX12_back_36 post  n = k36 at h hk36
      refine lv_iload_n hx hb dX12_back_36 rfl (lv_at hl 1 rfl) ?_
      refine lv_aload_n hx hb dX12_back_37 rfl (lv_at hl 0 rfl) ?_
      refine xgX12_62 hx hb hts hown hK hW 0 hcX12_back_X12 (hI 0 (by decide)) lR_0 (hts _ hwX12_back_6) dX12_back_38 ?_
      refine lv_icmp_ge (tgt := 86) hx hb dX12_back_41 (by decide) (fun c9 => ?_) (fun c9 => ?_)
      · have h := h.1 c9
        refine lv_iconst (v := 0) hx hb dX12_back_86 (by decide) ?_
        refine lv_istore_n (lv' := [(1, .int (0 : Int32)), (0, .ref (ad 0))]) hx hb dX12_back_87 rfl hl (by decide) rfl (fun ls hl => ?_)
        obtain ⟨n, h⟩ := h
        exact blk88    n (0 : Int32) _ _ _ _ hW (lv_sub hl [1, 0] rfl) h
      · have h := h.2 c9
        refine lv_aload_n hx hb dX12_back_44 rfl (lv_at hl 0 rfl) ?_
        refine xgX12_24r hx hb hts hown hK hW 0 hcX12_back_X12 (hI 0 (by decide)) lR_0 (hts _ hwX12_back_7) (sR_0_24 _) dX12_back_45 ?_
        refine lv_iload_n hx hb dX12_back_48 rfl (lv_at hl 1 rfl) ?_
        refine lv_aload_n hx hb dX12_back_49 rfl (lv_at hl 0 rfl) ?_
        refine xgX12_56r hx hb hts hown hK hW 0 hcX12_back_X12 (hI 0 (by decide)) lR_0 (hts _ hwX12_back_8) (sR_0_56 _) dX12_back_50 ?_
        refine lv_iload_n hx hb dX12_back_53 rfl (lv_at hl 1 rfl) ?_
        obtain ⟨hi11, h⟩ := h
        refine x_iald hx hb hK hW 26 (hI 26 (by decide)) lR_26 hi11 dX12_back_54 ?_
        refine x_iast hx hb hK hW 16 (hI 16 (by decide)) lR_16 hi11 dX12_back_55 (fun σ13 H locs hσ13 hW => ?_)
        have h := h σ13 hσ13
        refine lv_aload_n hx hb dX12_back_56 rfl (lv_at hl 0 rfl) ?_
        refine xgX12_25r hx hb hts hown hK hW 0 hcX12_back_X12 (hI 0 (by decide)) lR_0 (hts _ hwX12_back_9) (sR_0_25 _) dX12_back_57 ?_
        refine lv_iload_n hx hb dX12_back_60 rfl (lv_at hl 1 rfl) ?_
        refine lv_aload_n hx hb dX12_back_61 rfl (lv_at hl 0 rfl) ?_
        refine xgX12_57r hx hb hts hown hK hW 0 hcX12_back_X12 (hI 0 (by decide)) lR_0 (hts _ hwX12_back_10) (sR_0_57 _) dX12_back_62 ?_
        refine lv_iload_n hx hb dX12_back_65 rfl (lv_at hl 1 rfl) ?_
        refine x_iald hx hb hK hW 27 (hI 27 (by decide)) lR_27 hi11 dX12_back_66 ?_
        refine x_iast hx hb hK hW 17 (hI 17 (by decide)) lR_17 hi11 dX12_back_67 (fun σ16 H locs hσ16 hW => ?_)
        have h := h σ16 hσ16
        refine lv_aload_n hx hb dX12_back_68 rfl (lv_at hl 0 rfl) ?_
        refine xgX12_27r hx hb hts hown hK hW 0 hcX12_back_X12 (hI 0 (by decide)) lR_0 (hts _ hwX12_back_11) (sR_0_27 _) dX12_back_69 ?_
        refine lv_iload_n hx hb dX12_back_72 rfl (lv_at hl 1 rfl) ?_
        refine lv_aload_n hx hb dX12_back_73 rfl (lv_at hl 0 rfl) ?_
        refine xgX12_58r hx hb hts hown hK hW 0 hcX12_back_X12 (hI 0 (by decide)) lR_0 (hts _ hwX12_back_12) (sR_0_58 _) dX12_back_74 ?_
        refine lv_iload_n hx hb dX12_back_77 rfl (lv_at hl 1 rfl) ?_
        refine x_iald hx hb hK hW 28 (hI 28 (by decide)) lR_28 hi11 dX12_back_78 ?_
        refine x_iast hx hb hK hW 19 (hI 19 (by decide)) lR_19 hi11 dX12_back_79 (fun σ19 H locs hσ19 hW => ?_)
        have h := h σ19 hσ19
        obtain ⟨v20, hv20⟩ : ∃ y : Int32, y = x1 + (1 : Int32) := ⟨_, rfl⟩
        have h := h v20 hv20
        refine lv_iinc (v := v20) (lv' := [(1, .int v20), (0, .ref (ad 0))]) hx hb dX12_back_80 hl (k := 1) rfl (by rw [hv20]; rfl) (by decide) rfl (fun ls hl => ?_)
        refine lv_goto (tgt := 36) hx hb dX12_back_83 (by decide) ?_
        exact hk36 v20 _ _ _ _ hW (lv_sub hl [1, 0] rfl) h
  have main : ∀ (H : Heap) (locs : List Loc) (ls : Array Slot), xW D KA layR stR ad ids (xA ad ids s.heap.size) s.heap σ H locs → lv_has ls 2 [(0, .ref (ad 0))] → W p l e rmX12_back s m args below meth c H locs 0 0 Q (F0 m 0 ls []) := by
    intro H locs ls hW hl
    unfold wX12_back at h
    refine lv_aload_n hx hb dX12_back_0 rfl (lv_at hl 0 rfl) ?_
    refine xgX12_61 hx hb hts hown hK hW 0 hcX12_back_X12 (hI 0 (by decide)) lR_0 (hts _ hwX12_back_13) dX12_back_1 ?_
    refine lv_if_ne (tgt := 10) hx hb dX12_back_4 (by decide) (fun c1001 => ?_) (fun c1001 => ?_)
    · have h := h.1 c1001
      refine lv_aload_n hx hb dX12_back_10 rfl (lv_at hl 0 rfl) ?_
      refine lv_aload_n hx hb dX12_back_11 rfl (lv_at hl 0 rfl) ?_
      refine xgX12_64 hx hb hts hown hK hW 0 hcX12_back_X12 (hI 0 (by decide)) lR_0 (hts _ hwX12_back_14) dX12_back_12 ?_
      refine xpX12_10 hx hb hts hown hK hW 0 hcX12_back_X12 (hI 0 (by decide)) lR_0 (hts _ hwX12_back_15) dX12_back_15 (fun σ1002 H locs hσ1002 hW => ?_)
      have h := h σ1002 hσ1002
      refine lv_aload_n hx hb dX12_back_18 rfl (lv_at hl 0 rfl) ?_
      refine lv_aload_n hx hb dX12_back_19 rfl (lv_at hl 0 rfl) ?_
      refine xgX12_65 hx hb hts hown hK hW 0 hcX12_back_X12 (hI 0 (by decide)) lR_0 (hts _ hwX12_back_16) dX12_back_20 ?_
      refine xpX12_11 hx hb hts hown hK hW 0 hcX12_back_X12 (hI 0 (by decide)) lR_0 (hts _ hwX12_back_17) dX12_back_23 (fun σ1003 H locs hσ1003 hW => ?_)
      have h := h σ1003 hσ1003
      refine lv_aload_n hx hb dX12_back_26 rfl (lv_at hl 0 rfl) ?_
      refine lv_aload_n hx hb dX12_back_27 rfl (lv_at hl 0 rfl) ?_
      refine xgX12_66 hx hb hts hown hK hW 0 hcX12_back_X12 (hI 0 (by decide)) lR_0 (hts _ hwX12_back_18) dX12_back_28 ?_
      refine xpX12_4 hx hb hts hown hK hW 0 hcX12_back_X12 (hI 0 (by decide)) lR_0 (hts _ hwX12_back_19) dX12_back_31 (fun σ1004 H locs hσ1004 hW => ?_)
      have h := h σ1004 hσ1004
      refine lv_iconst (v := 0) hx hb dX12_back_34 (by decide) ?_
      refine lv_istore_n (lv' := [(1, .int (0 : Int32)), (0, .ref (ad 0))]) hx hb dX12_back_35 rfl hl (by decide) rfl (fun ls hl => ?_)
      obtain ⟨n, h⟩ := h
      exact blk36    n (0 : Int32) _ _ _ _ hW (lv_sub hl [1, 0] rfl) h
    · have h := h.2 c1001
      refine lv_bipush (v := (-3)) hx hb dX12_back_7 (by decide) ?_
      exact kr _ _ _ _ _ _ hW h dX12_back_9
  exact main _ _ _ hW hl
